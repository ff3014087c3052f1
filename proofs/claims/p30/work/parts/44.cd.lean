/-! the class as functions: written by wip/tools/genc.py (gc1.py) -/
-- 66 PageLoom$Transactions.victimOnRing need 0
def fc66_12 : Nat → jc_K → Int → Int → Int → Int → Option (jc_K × Int)
  | 0, _, _, _, _, _ => none
  | m + 1, K, l1, l2, l3, l4 => if 4 ≤ l4 then (if l3 = l1 then (some (K, l2)) else (some (K, (-1)))) else (if l3 = l1 then (some (K, l2)) else (if l3 < 0 then (some (K, (-1))) else (if l3 < 4 then (if 0 ≤ l3 ∧ l3 < 4 then if 0 ≤ l2 ∧ l2 < 4 then if jc_i K 60 l3 < jc_i K 60 l2 then (if -2147483648 ≤ (l4 + 1) ∧ (l4 + 1) < 2147483648 then fc66_12 m K l1 l3 (jc_i K 61 l3) (l4 + 1) else none) else (if jc_i K 60 l3 = jc_i K 60 l2 then (if l3 ≤ l2 then (if -2147483648 ≤ (l4 + 1) ∧ (l4 + 1) < 2147483648 then fc66_12 m K l1 l2 (jc_i K 61 l3) (l4 + 1) else none) else (if -2147483648 ≤ (l4 + 1) ∧ (l4 + 1) < 2147483648 then fc66_12 m K l1 l3 (jc_i K 61 l3) (l4 + 1) else none)) else (if -2147483648 ≤ (l4 + 1) ∧ (l4 + 1) < 2147483648 then fc66_12 m K l1 l2 (jc_i K 61 l3) (l4 + 1) else none)) else none else none) else (some (K, (-1))))))
theorem jd66_12 {d : Nat} {σ0 : ib_H} {Q : ib_O → Prop} : ∀ (m : Nat) {K : jc_K} {l1 : Int} {l2 : Int} {l3 : Int} {l4 : Int} (hl1 : jb_r l1) (hl2 : jb_r l2) (hl3 : jb_r l3) (hl4 : jb_r l4) {r : (jc_K × Int)} (h : fc66_12 m K l1 l2 l3 l4 = some r) (k : ∀ σ, jc_S σ0 r.1 σ → jb_r r.2 → Q (.inl (some (jb_v r.2)), σ)), jc_W σ0 K d 66 12 [some (.ref 57), some (jb_v l1), some (jb_v l2), some (jb_v l3), some (jb_v l4)] [] Q := by
  intro m
  induction m with
  | zero =>
    intro K l1 l2 l3 l4 hl1 hl2 hl3 hl4 r h k
    cases h
  | succ m ih =>
    intro K l1 l2 l3 l4 hl1 hl2 hl3 hl4 r h k σ s
    unfold fc66_12 at h
    refine jiL4 (p := 14) rfl jM66 jq66_12 ?_
    refine jw_iconst (p := 15) rfl jM66 jq66_14 ?_
    refine jw_ic (p := 18) rfl jM66 jq66_15 (jc_ge hl4 (jb_rn rfl)) (fun c1 => ?_) (fun c1 => ?_)
    · have h1 := jo_p c1 h
      refine jiL3 (p := 85) rfl jM66 jq66_84 ?_
      refine jiL1 (p := 86) rfl jM66 jq66_85 ?_
      refine jw_ic (p := 89) rfl jM66 jq66_86 (jc_ne hl3 hl1) (fun c2 => ?_) (fun c2 => ?_)
      · have h2 := jo_n c2 h1
        refine jw_iconst (p := 94) rfl jM66 jq66_93 ?_
        cases h2
        exact jw_iret jM66 jq66_94 (fun z => absurd z (by decide)) (k σ s (jb_rn rfl))
      · have h2 := jo_p (Decidable.byContradiction c2) h1
        refine jiL2 (p := 90) rfl jM66 jq66_89 ?_
        refine jw_goto jM66 jq66_90 ?_
        cases h2
        exact jw_iret jM66 jq66_94 (fun z => absurd z (by decide)) (k σ s hl2)
    · have h1 := jo_n c1 h
      refine jiL3 (p := 19) rfl jM66 jq66_18 ?_
      refine jiL1 (p := 20) rfl jM66 jq66_19 ?_
      refine jw_ic (p := 23) rfl jM66 jq66_20 (jc_eq hl3 hl1) (fun c3 => ?_) (fun c3 => ?_)
      · have h3 := jo_p c3 h1
        refine jiL3 (p := 85) rfl jM66 jq66_84 ?_
        refine jiL1 (p := 86) rfl jM66 jq66_85 ?_
        refine jw_ic (p := 89) rfl jM66 jq66_86 (jc_ne hl3 hl1) (fun z => absurd c3 z) (fun _ => ?_)
        refine jiL2 (p := 90) rfl jM66 jq66_89 ?_
        refine jw_goto jM66 jq66_90 ?_
        cases h3
        exact jw_iret jM66 jq66_94 (fun z => absurd z (by decide)) (k σ s hl2)
      · have h3 := jo_n c3 h1
        refine jiL3 (p := 24) rfl jM66 jq66_23 ?_
        refine jw_if (p := 27) rfl jM66 jq66_24 (jc_lt hl3 jb_r0) (fun c4 => ?_) (fun c4 => ?_)
        · have h4 := jo_p c4 h3
          refine jw_iconst (p := 33) rfl jM66 jq66_32 ?_
          cases h4
          exact jw_iret jM66 jq66_33 (fun z => absurd z (by decide)) (k σ s (jb_rn rfl))
        · have h4 := jo_n c4 h3
          refine jiL3 (p := 28) rfl jM66 jq66_27 ?_
          refine jw_iconst (p := 29) rfl jM66 jq66_28 ?_
          refine jw_ic (p := 32) rfl jM66 jq66_29 (jc_lt hl3 (jb_rn rfl)) (fun c5 => ?_) (fun c5 => ?_)
          · have h5 := jo_p c5 h4
            refine jaL0 (p := 35) rfl jM66 jq66_34 ?_
            refine jw_getP (p := 38) (i := 2) (q := 60) rfl jM66 jq66_35 rfl (jo_57 s.1) je_6_2 (jp_57_2 s.1) ?_
            refine jiL3 (p := 39) rfl jM66 jq66_38 ?_
            obtain ⟨c6, h6⟩ := jo_i h5
            refine jc_iald (p := 40) rfl jM66 jq66_39 (ja_60 s.1) c6.1 c6.2 s (by decide) rfl ?_
            refine jaL0 (p := 41) rfl jM66 jq66_40 ?_
            refine jw_getP (p := 44) (i := 2) (q := 60) rfl jM66 jq66_41 rfl (jo_57 s.1) je_6_2 (jp_57_2 s.1) ?_
            refine jiL2 (p := 45) rfl jM66 jq66_44 ?_
            obtain ⟨c7, h7⟩ := jo_i h6
            refine jc_iald (p := 46) rfl jM66 jq66_45 (ja_60 s.1) c7.1 c7.2 s (by decide) rfl ?_
            refine jw_ic (p := 49) rfl jM66 jq66_46 (jc_lt (s.r _ _) (s.r _ _)) (fun c8 => ?_) (fun c8 => ?_)
            · have h8 := jo_p c8 h7
              refine jiL3 (p := 70) rfl jM66 jq66_69 ?_
              refine jiS2 (p := 71) rfl jM66 jq66_70 ?_
              refine jaL0 (p := 72) rfl jM66 jq66_71 ?_
              refine jw_getP (p := 75) (i := 3) (q := 61) rfl jM66 jq66_72 rfl (jo_57 s.1) je_6_3 (jp_57_3 s.1) ?_
              refine jiL3 (p := 76) rfl jM66 jq66_75 ?_
              refine jc_iald (p := 77) rfl jM66 jq66_76 (ja_61 s.1) c6.1 c6.2 s (by decide) rfl ?_
              refine jiS3 (p := 78) rfl jM66 jq66_77 ?_
              refine jiI4 (p := 81) rfl jM66 jq66_78 ?_
              refine jw_goto jM66 jq66_81 ?_
              obtain ⟨c9, h9⟩ := jo_i h8
              exact ih hl1 hl3 (s.r _ _) c9 h9 k σ s
            · have h8 := jo_n c8 h7
              refine jaL0 (p := 50) rfl jM66 jq66_49 ?_
              refine jw_getP (p := 53) (i := 2) (q := 60) rfl jM66 jq66_50 rfl (jo_57 s.1) je_6_2 (jp_57_2 s.1) ?_
              refine jiL3 (p := 54) rfl jM66 jq66_53 ?_
              refine jc_iald (p := 55) rfl jM66 jq66_54 (ja_60 s.1) c6.1 c6.2 s (by decide) rfl ?_
              refine jaL0 (p := 56) rfl jM66 jq66_55 ?_
              refine jw_getP (p := 59) (i := 2) (q := 60) rfl jM66 jq66_56 rfl (jo_57 s.1) je_6_2 (jp_57_2 s.1) ?_
              refine jiL2 (p := 60) rfl jM66 jq66_59 ?_
              refine jc_iald (p := 61) rfl jM66 jq66_60 (ja_60 s.1) c7.1 c7.2 s (by decide) rfl ?_
              refine jw_ic (p := 64) rfl jM66 jq66_61 (jc_ne (s.r _ _) (s.r _ _)) (fun c10 => ?_) (fun c10 => ?_)
              · have h10 := jo_n c10 h8
                refine jaL0 (p := 72) rfl jM66 jq66_71 ?_
                refine jw_getP (p := 75) (i := 3) (q := 61) rfl jM66 jq66_72 rfl (jo_57 s.1) je_6_3 (jp_57_3 s.1) ?_
                refine jiL3 (p := 76) rfl jM66 jq66_75 ?_
                refine jc_iald (p := 77) rfl jM66 jq66_76 (ja_61 s.1) c6.1 c6.2 s (by decide) rfl ?_
                refine jiS3 (p := 78) rfl jM66 jq66_77 ?_
                refine jiI4 (p := 81) rfl jM66 jq66_78 ?_
                refine jw_goto jM66 jq66_81 ?_
                obtain ⟨c11, h11⟩ := jo_i h10
                exact ih hl1 hl2 (s.r _ _) c11 h11 k σ s
              · have h10 := jo_p (Decidable.byContradiction c10) h8
                refine jiL3 (p := 65) rfl jM66 jq66_64 ?_
                refine jiL2 (p := 66) rfl jM66 jq66_65 ?_
                refine jw_ic (p := 69) rfl jM66 jq66_66 (jc_le hl3 hl2) (fun c12 => ?_) (fun c12 => ?_)
                · have h12 := jo_p c12 h10
                  refine jaL0 (p := 72) rfl jM66 jq66_71 ?_
                  refine jw_getP (p := 75) (i := 3) (q := 61) rfl jM66 jq66_72 rfl (jo_57 s.1) je_6_3 (jp_57_3 s.1) ?_
                  refine jiL3 (p := 76) rfl jM66 jq66_75 ?_
                  refine jc_iald (p := 77) rfl jM66 jq66_76 (ja_61 s.1) c6.1 c6.2 s (by decide) rfl ?_
                  refine jiS3 (p := 78) rfl jM66 jq66_77 ?_
                  refine jiI4 (p := 81) rfl jM66 jq66_78 ?_
                  refine jw_goto jM66 jq66_81 ?_
                  obtain ⟨c13, h13⟩ := jo_i h12
                  exact ih hl1 hl2 (s.r _ _) c13 h13 k σ s
                · have h12 := jo_n c12 h10
                  refine jiL3 (p := 70) rfl jM66 jq66_69 ?_
                  refine jiS2 (p := 71) rfl jM66 jq66_70 ?_
                  refine jaL0 (p := 72) rfl jM66 jq66_71 ?_
                  refine jw_getP (p := 75) (i := 3) (q := 61) rfl jM66 jq66_72 rfl (jo_57 s.1) je_6_3 (jp_57_3 s.1) ?_
                  refine jiL3 (p := 76) rfl jM66 jq66_75 ?_
                  refine jc_iald (p := 77) rfl jM66 jq66_76 (ja_61 s.1) c6.1 c6.2 s (by decide) rfl ?_
                  refine jiS3 (p := 78) rfl jM66 jq66_77 ?_
                  refine jiI4 (p := 81) rfl jM66 jq66_78 ?_
                  refine jw_goto jM66 jq66_81 ?_
                  obtain ⟨c14, h14⟩ := jo_i h12
                  exact ih hl1 hl3 (s.r _ _) c14 h14 k σ s
          · have h5 := jo_n c5 h4
            refine jw_iconst (p := 33) rfl jM66 jq66_32 ?_
            cases h5
            exact jw_iret jM66 jq66_33 (fun z => absurd z (by decide)) (k σ s (jb_rn rfl))
def fc66 (K : jc_K) (l1 : Int) : Option (jc_K × Int) := if 0 ≤ l1 ∧ l1 < 4 then fc66_12 jo_N K l1 l1 (jc_i K 61 l1) 0 else none
theorem jd66 {d : Nat} {σ0 : ib_H} {Q : ib_O → Prop} {K : jc_K} {l1 : Int} (hl1 : jb_r l1) {r : (jc_K × Int)} (h : fc66 K l1 = some r) (k : ∀ σ, jc_S σ0 r.1 σ → jb_r r.2 → Q (.inl (some (jb_v r.2)), σ)) : jc_W σ0 K d 66 0 [some (.ref 57), some (jb_v l1), none, none, none] [] Q := by
  intro σ s
  unfold fc66 at h
  refine jiL1 (p := 1) rfl jM66 jq66_0 ?_
  refine jiS2 (p := 2) rfl jM66 jq66_1 ?_
  refine jaL0 (p := 3) rfl jM66 jq66_2 ?_
  refine jw_getP (p := 6) (i := 3) (q := 61) rfl jM66 jq66_3 rfl (jo_57 s.1) je_6_3 (jp_57_3 s.1) ?_
  refine jiL1 (p := 7) rfl jM66 jq66_6 ?_
  obtain ⟨c1, h1⟩ := jo_i h
  refine jc_iald (p := 8) rfl jM66 jq66_7 (ja_61 s.1) c1.1 c1.2 s (by decide) rfl ?_
  refine jiS3 (p := 9) rfl jM66 jq66_8 ?_
  refine jw_iconst (p := 10) rfl jM66 jq66_9 ?_
  refine jiS4 (p := 12) rfl jM66 jq66_10 ?_
  exact jd66_12 jo_N hl1 hl1 (s.r _ _) (jb_rn rfl) h1 k σ s
-- 67 PageLoom$Transactions.tellLatest need 0
def fc67_16 : Nat → jc_K → Nat → Int → Option (jc_K × Int)
  | 0, _, _, _ => none
  | m + 1, K, l1, l2 => if 4 ≤ l2 then (some (K, 0)) else (if jc_rc K l1 then jo_ln (jc_p K l1 11) fun q3 => if jc_ta K q3 4 then jo_ln (jc_p K l1 11) fun q6 => if 0 ≤ l2 ∧ l2 < 4 then if jc_i K 58 l2 = 0 then (if jc_ta K q6 4 then if -2147483648 ≤ (l2 + 1) ∧ (l2 + 1) < 2147483648 then fc67_16 m (jc_ui K q6 l2 0) l1 (l2 + 1) else none else none) else (if jc_ta K q6 4 then if -2147483648 ≤ (l2 + 1) ∧ (l2 + 1) < 2147483648 then fc67_16 m (jc_ui K q6 l2 (jc_i K 59 l2)) l1 (l2 + 1) else none else none) else none else none else none)
theorem jd67_16 {d : Nat} {σ0 : ib_H} {Q : ib_O → Prop} : ∀ (m : Nat) {K : jc_K} {l1 : Nat} {l2 : Int} (hl2 : jb_r l2) {r : (jc_K × Int)} (h : fc67_16 m K l1 l2 = some r) (k : ∀ σ, jc_S σ0 r.1 σ → Q (.inl none, σ)), jc_W σ0 K d 67 16 [some (.ref 57), some (.ref l1), some (jb_v l2)] [] Q := by
  intro m
  induction m with
  | zero =>
    intro K l1 l2 hl2 r h k
    cases h
  | succ m ih =>
    intro K l1 l2 hl2 r h k σ s
    unfold fc67_16 at h
    refine jiL2 (p := 17) rfl jM67 jq67_16 ?_
    refine jw_iconst (p := 18) rfl jM67 jq67_17 ?_
    refine jw_ic (p := 21) rfl jM67 jq67_18 (jc_ge hl2 (jb_rn rfl)) (fun c1 => ?_) (fun c1 => ?_)
    · have h1 := jo_p c1 h
      cases h1
      exact jw_vret jM67 jq67_61 (k σ s)
    · have h1 := jo_n c1 h
      refine jiL2 (p := 22) rfl jM67 jq67_21 ?_
      refine jaL1 (p := 23) rfl jM67 jq67_22 ?_
      obtain ⟨c2, h2⟩ := jo_i h1
      obtain ⟨q3, e4, h4⟩ := jo_lnb h2
      refine jc_getP (p := 26) (i := 11) rfl jM67 jq67_23 rfl (s.rc c2).ob je_3_11 s (by decide) e4 ?_
      obtain ⟨c5, h5⟩ := jo_i h4
      refine jw_alen (p := 27) rfl jM67 jq67_26 (s.ta c5 (by decide)) (by decide) ?_
      refine jw_ic (p := 30) rfl jM67 jq67_27 (jc_ge hl2 (jb_rn rfl)) (fun z => absurd z c1) (fun _ => ?_)
      refine jaL1 (p := 31) rfl jM67 jq67_30 ?_
      obtain ⟨q6, e7, h7⟩ := jo_lnb h5
      refine jc_getP (p := 34) (i := 11) rfl jM67 jq67_31 rfl (s.rc c2).ob je_3_11 s (by decide) e7 ?_
      refine jiL2 (p := 35) rfl jM67 jq67_34 ?_
      refine jaL0 (p := 36) rfl jM67 jq67_35 ?_
      refine jw_getP (p := 39) (i := 0) (q := 58) rfl jM67 jq67_36 rfl (jo_57 s.1) je_6_0 (jp_57_0 s.1) ?_
      refine jiL2 (p := 40) rfl jM67 jq67_39 ?_
      obtain ⟨c8, h8⟩ := jo_i h7
      refine jc_bald (p := 41) rfl jM67 jq67_40 (ja_58 s.1) c8.1 c8.2 s (by decide) rfl ?_
      refine jw_if (p := 44) rfl jM67 jq67_41 (jc_eq (s.r _ _) jb_r0) (fun c9 => ?_) (fun c9 => ?_)
      · have h9 := jo_p c9 h8
        refine jw_iconst (p := 54) rfl jM67 jq67_53 ?_
        obtain ⟨c10, h10⟩ := jo_i h9
        refine jc_iast (p := 55) rfl jM67 jq67_54 (s.ta c10 (by decide)) c8.1 c8.2 s (jc_tad c10) (jb_rn rfl) ?_
        intro σ11 s11
        refine jiI2 (p := 58) rfl jM67 jq67_55 ?_
        refine jw_goto jM67 jq67_58 ?_
        obtain ⟨c12, h12⟩ := jo_i h10
        exact ih c12 h12 k σ11 s11
      · have h9 := jo_n c9 h8
        refine jaL0 (p := 45) rfl jM67 jq67_44 ?_
        refine jw_getP (p := 48) (i := 1) (q := 59) rfl jM67 jq67_45 rfl (jo_57 s.1) je_6_1 (jp_57_1 s.1) ?_
        refine jiL2 (p := 49) rfl jM67 jq67_48 ?_
        refine jc_iald (p := 50) rfl jM67 jq67_49 (ja_59 s.1) c8.1 c8.2 s (by decide) rfl ?_
        refine jw_goto jM67 jq67_50 ?_
        obtain ⟨c13, h13⟩ := jo_i h9
        refine jc_iast (p := 55) rfl jM67 jq67_54 (s.ta c13 (by decide)) c8.1 c8.2 s (jc_tad c13) (s.r _ _) ?_
        intro σ14 s14
        refine jiI2 (p := 58) rfl jM67 jq67_55 ?_
        refine jw_goto jM67 jq67_58 ?_
        obtain ⟨c15, h15⟩ := jo_i h13
        exact ih c15 h15 k σ14 s14
def fc67 (K : jc_K) (l1 : Nat) : Option (jc_K × Int) := if jc_rc K l1 then jo_ln (jc_p K l1 11) fun q2 => if q2 = 0 then (jo_ln (K.1.1) fun q5 => if jc_rc (jc_na K 4) l1 then fc67_16 jo_N (jc_up (jc_na K 4) l1 11 q5) l1 0 else none) else (fc67_16 jo_N K l1 0) else none
theorem jd67 {d : Nat} {σ0 : ib_H} {Q : ib_O → Prop} {K : jc_K} {l1 : Nat} {r : (jc_K × Int)} (h : fc67 K l1 = some r) (k : ∀ σ, jc_S σ0 r.1 σ → Q (.inl none, σ)) : jc_W σ0 K d 67 0 [some (.ref 57), some (.ref l1), none] [] Q := by
  intro σ s
  unfold fc67 at h
  refine jaL1 (p := 1) rfl jM67 jq67_0 ?_
  obtain ⟨c1, h1⟩ := jo_i h
  obtain ⟨q2, e3, h3⟩ := jo_lnb h1
  refine jc_getP (p := 4) (i := 11) rfl jM67 jq67_1 rfl (s.rc c1).ob je_3_11 s (by decide) e3 ?_
  refine jw_ifnonnull (p := 7) rfl jM67 jq67_4 (fun c4 => ?_) (fun c4 => ?_)
  · have h4 := jo_n c4 h3
    refine jw_iconst (p := 15) rfl jM67 jq67_14 ?_
    refine jiS2 (p := 16) rfl jM67 jq67_15 ?_
    exact jd67_16 jo_N (jb_rn rfl) h4 k σ s
  · have h4 := jo_p c4 h3
    refine jaL1 (p := 8) rfl jM67 jq67_7 ?_
    refine jw_iconst (p := 9) rfl jM67 jq67_8 ?_
    obtain ⟨q5, e6, h6⟩ := jo_lnb h4
    refine jc_nar (n := 4) (p := 11) rfl jM67 jq67_9 (by decide) s e6 ?_
    intro σ7 s7
    obtain ⟨c8, h8⟩ := jo_i h6
    refine jc_putP (p := 14) (i := 11) rfl jM67 jq67_11 rfl (s7.rc c8).ob je_3_11 (s.nx1 e6) s7 (Or.inr c8.1.1) (by decide) ?_
    intro σ9 s9
    refine jw_iconst (p := 15) rfl jM67 jq67_14 ?_
    refine jiS2 (p := 16) rfl jM67 jq67_15 ?_
    exact jd67_16 jo_N (jb_rn rfl) h8 k σ9 s9
-- 69 PageLoom$Tree.onWay need 0
def fc69 (K : jc_K) (l1 : Int) : Option (jc_K × Int) := if l1 < 0 then (some (K, 0)) else (if 24 ≤ l1 then (some (K, 0)) else (if 0 ≤ l1 ∧ l1 < 24 then some (K, jc_i K 80 l1) else none))
theorem jd69 {d : Nat} {σ0 : ib_H} {Q : ib_O → Prop} {K : jc_K} {l1 : Int} (hl1 : jb_r l1) {r : (jc_K × Int)} (h : fc69 K l1 = some r) (k : ∀ σ, jc_S σ0 r.1 σ → jb_r r.2 → Q (.inl (some (jb_v r.2)), σ)) : jc_W σ0 K d 69 0 [some (.ref 79), some (jb_v l1)] [] Q := by
  intro σ s
  unfold fc69 at h
  refine jiL1 (p := 1) rfl jM69 jq69_0 ?_
  refine jw_if (p := 4) rfl jM69 jq69_1 (jc_lt hl1 jb_r0) (fun c1 => ?_) (fun c1 => ?_)
  · have h1 := jo_p c1 h
    refine jw_iconst (p := 20) rfl jM69 jq69_19 ?_
    cases h1
    exact jw_iret jM69 jq69_20 (fun z => absurd z (by decide)) (k σ s (jb_rn rfl))
  · have h1 := jo_n c1 h
    refine jiL1 (p := 5) rfl jM69 jq69_4 ?_
    refine jw_bipush (p := 7) rfl jM69 jq69_5 (by decide) ?_
    refine jw_ic (p := 10) rfl jM69 jq69_7 (jc_ge hl1 (jb_rn rfl)) (fun c2 => ?_) (fun c2 => ?_)
    · have h2 := jo_p c2 h1
      refine jw_iconst (p := 20) rfl jM69 jq69_19 ?_
      cases h2
      exact jw_iret jM69 jq69_20 (fun z => absurd z (by decide)) (k σ s (jb_rn rfl))
    · have h2 := jo_n c2 h1
      refine jaL0 (p := 11) rfl jM69 jq69_10 ?_
      refine jw_getP (p := 14) (i := 2) (q := 80) rfl jM69 jq69_11 rfl (jo_79 s.1) je_7_2 (jp_79_2 s.1) ?_
      refine jiL1 (p := 15) rfl jM69 jq69_14 ?_
      obtain ⟨c3, h3⟩ := jo_i h2
      refine jc_iald (p := 16) rfl jM69 jq69_15 (ja_80 s.1) c3.1 c3.2 s (by decide) rfl ?_
      refine jw_goto jM69 jq69_16 ?_
      cases h3
      exact jw_iret jM69 jq69_20 (fun z => absurd z (by decide)) (k σ s (s.r _ _))
-- 70 PageLoom$Tree.end need 1
def fc70 (K : jc_K) : Option (jc_K × Int) := (fc69 K (jc_i K 79 3)).bind fun x1 => some (x1.1, x1.2)
theorem jd70 {d : Nat} {σ0 : ib_H} {Q : ib_O → Prop} {K : jc_K} {r : (jc_K × Int)} (h : fc70 K  = some r) (k : ∀ σ, jc_S σ0 r.1 σ → jb_r r.2 → Q (.inl (some (jb_v r.2)), σ)) : jc_W σ0 K (d + 1) 70 0 [some (.ref 79)] [] Q := by
  intro σ s
  unfold fc70 at h
  refine jaL0 (p := 1) rfl jM70 jq70_0 ?_
  refine jaL0 (p := 2) rfl jM70 jq70_1 ?_
  refine jc_getI (p := 5) (i := 3) rfl jM70 jq70_2 rfl (jo_79 s.1) jn_7_3 s (by decide) (by decide) rfl ?_
  refine jw_callV [(jb_v (jc_i K 79 3))] jM70 jq70_5 rfl rfl (jo_79 s.1) rfl jM69 rfl rfl ?_
  obtain ⟨x1, b2, h2⟩ := jo_b h
  refine jd69 (s.r _ _) b2 (fun σ1 s1 r1 => ?_) σ s
  show jb_w (d + 1) 70 8 [some (.ref 79)] [(jb_v (x1.2))] σ1 Q
  cases h2
  exact jw_iret jM70 jq70_8 (fun z => absurd z (by decide)) (k σ1 s1 r1)
-- 71 PageLoom$Tree.find need 3
def fc71_4 : Nat → jc_K → Int → Int → Int → Option (jc_K × Int)
  | 0, _, _, _, _ => none
  | m + 1, K, l1, l2, l3 => if 24 ≤ l3 then (some (K, 0)) else ((fc5 K l2).bind fun x2 => if x2.2 = 0 then (some (x2.1, 0)) else (if 0 ≤ l3 ∧ l3 < 24 then (fc3 (jc_ui (jc_ui (x2.1) 80 l3 l2) 79 3 l3) l2).bind fun x8 => if x8.2 = 0 then (some (x8.1, 0)) else (if jc_pg (x8.1) (x8.2) then if jc_i (x8.1) (x8.2) 0 = 2 then ((fc40 (x8.1) (x8.2) l1).bind fun x13 => if -2147483648 ≤ (l3 + 1) ∧ (l3 + 1) < 2147483648 then fc71_4 m (x13.1) l1 (x13.2) (l3 + 1) else none) else (some (x8.1, 1)) else none) else none))
theorem jd71_4 {d : Nat} {σ0 : ib_H} {Q : ib_O → Prop} : ∀ (m : Nat) {K : jc_K} {l1 : Int} {l2 : Int} {l3 : Int} {o4 : Option Value} (hl1 : jb_r l1) (hl2 : jb_r l2) (hl3 : jb_r l3) {r : (jc_K × Int)} (h : fc71_4 m K l1 l2 l3 = some r) (k : ∀ σ, jc_S σ0 r.1 σ → jb_r r.2 → Q (.inl (some (jb_v r.2)), σ)), jc_W σ0 K (d + 3) 71 4 [some (.ref 79), some (jb_v l1), some (jb_v l2), some (jb_v l3), o4] [] Q := by
  intro m
  induction m with
  | zero =>
    intro K l1 l2 l3 o4 hl1 hl2 hl3 r h k
    cases h
  | succ m ih =>
    intro K l1 l2 l3 o4 hl1 hl2 hl3 r h k σ s
    unfold fc71_4 at h
    refine jiL3 (p := 5) rfl jM71 jq71_4 ?_
    refine jw_bipush (p := 7) rfl jM71 jq71_5 (by decide) ?_
    refine jw_ic (p := 10) rfl jM71 jq71_7 (jc_ge hl3 (jb_rn rfl)) (fun c1 => ?_) (fun c1 => ?_)
    · have h1 := jo_p c1 h
      refine jw_iconst (p := 84) rfl jM71 jq71_83 ?_
      cases h1
      exact jw_iret jM71 jq71_84 (fun _ => Or.inl rfl) (k σ s (jb_rn rfl))
    · have h1 := jo_n c1 h
      refine jaL0 (p := 11) rfl jM71 jq71_10 ?_
      refine jw_getP (p := 14) (i := 0) (q := 66) rfl jM71 jq71_11 rfl (jo_79 s.1) je_7_0 (jp_79_0 s.1) ?_
      refine jiL2 (p := 15) rfl jM71 jq71_14 ?_
      refine jw_callV [(jb_v l2)] jM71 jq71_15 rfl rfl (jo_66 s.1) rfl jM5 rfl rfl ?_
      obtain ⟨x2, b3, h3⟩ := jo_b h1
      refine jd5 hl2 b3 (fun σ2 s2 r2 => ?_) σ s
      show jb_w (d + 3) 71 18 [some (.ref 79), some (jb_v l1), some (jb_v l2), some (jb_v l3), o4] [(jb_v (x2.2))] σ2 Q
      refine jw_if (p := 21) rfl jM71 jq71_18 (jc_ne r2 jb_r0) (fun c4 => ?_) (fun c4 => ?_)
      · have h4 := jo_n c4 h3
        refine jaL0 (p := 24) rfl jM71 jq71_23 ?_
        refine jw_getP (p := 27) (i := 2) (q := 80) rfl jM71 jq71_24 rfl (jo_79 s2.1) je_7_2 (jp_79_2 s2.1) ?_
        refine jiL3 (p := 28) rfl jM71 jq71_27 ?_
        refine jiL2 (p := 29) rfl jM71 jq71_28 ?_
        obtain ⟨c5, h5⟩ := jo_i h4
        refine jc_iast (p := 30) rfl jM71 jq71_29 (ja_80 s2.1) c5.1 c5.2 s2 (by decide) hl2 ?_
        intro σ6 s6
        refine jaL0 (p := 31) rfl jM71 jq71_30 ?_
        refine jiL3 (p := 32) rfl jM71 jq71_31 ?_
        refine jc_putI (p := 35) (i := 3) rfl jM71 jq71_32 rfl (jo_79 s6.1) (Or.inl jz_7_3) s6 (by decide) (by decide) hl3 ?_
        intro σ7 s7
        refine jaL0 (p := 36) rfl jM71 jq71_35 ?_
        refine jw_getP (p := 39) (i := 0) (q := 66) rfl jM71 jq71_36 rfl (jo_79 s7.1) je_7_0 (jp_79_0 s7.1) ?_
        refine jiL2 (p := 40) rfl jM71 jq71_39 ?_
        refine jw_callV [(jb_v l2)] jM71 jq71_40 rfl rfl (jo_66 s7.1) rfl jM3 rfl rfl ?_
        obtain ⟨x8, b9, h9⟩ := jo_b h5
        refine jd3 hl2 b9 (fun σ8 s8 => ?_) σ7 s7
        show jb_w (d + 3) 71 43 [some (.ref 79), some (jb_v l1), some (jb_v l2), some (jb_v l3), o4] [(.ref (x8.2))] σ8 Q
        refine jaS4 (p := 45) rfl jM71 jq71_43 ?_
        refine jaL4 (p := 47) rfl jM71 jq71_45 ?_
        refine jw_ifnull (p := 50) rfl jM71 jq71_47 (fun c10 => ?_) (fun c10 => ?_)
        · have h10 := jo_p c10 h9
          refine jaL4 (p := 61) rfl jM71 jq71_59 ?_
          refine jw_ifnull (p := 64) rfl jM71 jq71_61 (fun _ => ?_) (fun z => absurd c10 z)
          refine jw_iconst (p := 69) rfl jM71 jq71_68 ?_
          cases h10
          exact jw_iret jM71 jq71_69 (fun _ => Or.inl rfl) (k σ8 s8 (jb_rn rfl))
        · have h10 := jo_n c10 h9
          refine jaL4 (p := 52) rfl jM71 jq71_50 ?_
          obtain ⟨c11, h11⟩ := jo_i h10
          refine jc_getI (p := 55) (i := 0) rfl jM71 jq71_52 rfl (s8.pg c11).ob jn_4_0 s8 (jc_pgd c11) (by decide) rfl ?_
          refine jw_iconst (p := 56) rfl jM71 jq71_55 ?_
          refine jw_ic (p := 59) rfl jM71 jq71_56 (jc_eq (s8.r _ _) (jb_rn rfl)) (fun c12 => ?_) (fun c12 => ?_)
          · have h12 := jo_p c12 h11
            refine jaL4 (p := 72) rfl jM71 jq71_70 ?_
            refine jiL1 (p := 73) rfl jM71 jq71_72 ?_
            refine jw_callV [(jb_v l1)] jM71 jq71_73 rfl rfl (s8.pg c11).ob rfl jM40 rfl rfl ?_
            obtain ⟨x13, b14, h14⟩ := jo_b h12
            refine jd40 hl1 b14 (fun σ13 s13 r13 => ?_) σ8 s8
            show jb_w (d + 3) 71 76 [some (.ref 79), some (jb_v l1), some (jb_v l2), some (jb_v l3), some (.ref (x8.2))] [(jb_v (x13.2))] σ13 Q
            refine jiS2 (p := 77) rfl jM71 jq71_76 ?_
            refine jiI3 (p := 80) rfl jM71 jq71_77 ?_
            refine jw_goto jM71 jq71_80 ?_
            obtain ⟨c15, h15⟩ := jo_i h14
            exact ih hl1 r13 c15 h15 k σ13 s13
          · have h12 := jo_n c12 h11
            refine jaL4 (p := 61) rfl jM71 jq71_59 ?_
            refine jw_ifnull (p := 64) rfl jM71 jq71_61 (fun z => absurd z c10) (fun _ => ?_)
            refine jw_iconst (p := 65) rfl jM71 jq71_64 ?_
            refine jw_goto jM71 jq71_65 ?_
            cases h12
            exact jw_iret jM71 jq71_69 (fun _ => Or.inr rfl) (k σ8 s8 (jb_rn rfl))
      · have h4 := jo_p (Decidable.byContradiction c4) h3
        refine jw_iconst (p := 22) rfl jM71 jq71_21 ?_
        cases h4
        exact jw_iret jM71 jq71_22 (fun _ => Or.inl rfl) (k σ2 s2 (jb_rn rfl))
def fc71 (K : jc_K) (l1 : Int) : Option (jc_K × Int) := fc71_4 jo_N K l1 0 0
theorem jd71 {d : Nat} {σ0 : ib_H} {Q : ib_O → Prop} {K : jc_K} {l1 : Int} (hl1 : jb_r l1) {r : (jc_K × Int)} (h : fc71 K l1 = some r) (k : ∀ σ, jc_S σ0 r.1 σ → jb_r r.2 → Q (.inl (some (jb_v r.2)), σ)) : jc_W σ0 K (d + 3) 71 0 [some (.ref 79), some (jb_v l1), none, none, none] [] Q := by
  intro σ s
  unfold fc71 at h
  refine jw_iconst (p := 1) rfl jM71 jq71_0 ?_
  refine jiS2 (p := 2) rfl jM71 jq71_1 ?_
  refine jw_iconst (p := 3) rfl jM71 jq71_2 ?_
  refine jiS3 (p := 4) rfl jM71 jq71_3 ?_
  exact jd71_4 jo_N hl1 (jb_rn rfl) (jb_rn rfl) h k σ s
-- 72 PageLoom$Tree.valueAtEnd need 2
def fc72 (K : jc_K) (l1 : Int) : Option (jc_K × Int) := (fc70 K ).bind fun x1 => (fc3 (x1.1) (x1.2)).bind fun x3 => if x3.2 = 0 then (some (x3.1, (-1))) else (if jc_pg (x3.1) (x3.2) then (fc42 (x3.1) (x3.2) l1).bind fun x7 => some (x7.1, x7.2) else none)
theorem jd72 {d : Nat} {σ0 : ib_H} {Q : ib_O → Prop} {K : jc_K} {l1 : Int} (hl1 : jb_r l1) {r : (jc_K × Int)} (h : fc72 K l1 = some r) (k : ∀ σ, jc_S σ0 r.1 σ → jb_r r.2 → Q (.inl (some (jb_v r.2)), σ)) : jc_W σ0 K (d + 2) 72 0 [some (.ref 79), some (jb_v l1), none] [] Q := by
  intro σ s
  unfold fc72 at h
  refine jaL0 (p := 1) rfl jM72 jq72_0 ?_
  refine jw_getP (p := 4) (i := 0) (q := 66) rfl jM72 jq72_1 rfl (jo_79 s.1) je_7_0 (jp_79_0 s.1) ?_
  refine jaL0 (p := 5) rfl jM72 jq72_4 ?_
  refine jw_callV [] jM72 jq72_5 rfl rfl (jo_79 s.1) rfl jM70 rfl rfl ?_
  obtain ⟨x1, b2, h2⟩ := jo_b h
  refine jd70  b2 (fun σ1 s1 r1 => ?_) σ s
  show jb_w (d + 2) 72 8 [some (.ref 79), some (jb_v l1), none] [(jb_v (x1.2)), (.ref 66)] σ1 Q
  refine jw_callV [(jb_v (x1.2))] jM72 jq72_8 rfl rfl (jo_66 s1.1) rfl jM3 rfl rfl ?_
  obtain ⟨x3, b4, h4⟩ := jo_b h2
  refine jd3 r1 b4 (fun σ3 s3 => ?_) σ1 s1
  show jb_w (d + 2) 72 11 [some (.ref 79), some (jb_v l1), none] [(.ref (x3.2))] σ3 Q
  refine jaS2 (p := 12) rfl jM72 jq72_11 ?_
  refine jaL2 (p := 13) rfl jM72 jq72_12 ?_
  refine jw_ifnonnull (p := 16) rfl jM72 jq72_13 (fun c5 => ?_) (fun c5 => ?_)
  · have h5 := jo_n c5 h4
    refine jaL2 (p := 21) rfl jM72 jq72_20 ?_
    refine jiL1 (p := 22) rfl jM72 jq72_21 ?_
    obtain ⟨c6, h6⟩ := jo_i h5
    refine jw_callV [(jb_v l1)] jM72 jq72_22 rfl rfl (s3.pg c6).ob rfl jM42 rfl rfl ?_
    obtain ⟨x7, b8, h8⟩ := jo_b h6
    refine jd42 hl1 b8 (fun σ7 s7 r7 => ?_) σ3 s3
    show jb_w (d + 2) 72 25 [some (.ref 79), some (jb_v l1), some (.ref (x3.2))] [(jb_v (x7.2))] σ7 Q
    cases h8
    exact jw_iret jM72 jq72_25 (fun z => absurd z (by decide)) (k σ7 s7 r7)
  · have h5 := jo_p c5 h4
    refine jw_iconst (p := 17) rfl jM72 jq72_16 ?_
    refine jw_goto jM72 jq72_17 ?_
    cases h5
    exact jw_iret jM72 jq72_25 (fun z => absurd z (by decide)) (k σ3 s3 (jb_rn rfl))
-- 73 PageLoom$Tree.endIsFullFor need 2
def fc73 (K : jc_K) (l1 : Int) : Option (jc_K × Int) := (fc70 K ).bind fun x1 => (fc3 (x1.1) (x1.2)).bind fun x3 => if x3.2 = 0 then (some (x3.1, 0)) else (if jc_pg (x3.1) (x3.2) then if jc_i (x3.1) (x3.2) 2 < 4 then (some (x3.1, 0)) else ((fc42 (x3.1) (x3.2) l1).bind fun x8 => if x8.2 = (-1) then (some (x8.1, 1)) else (some (x8.1, 0))) else none)
theorem jd73 {d : Nat} {σ0 : ib_H} {Q : ib_O → Prop} {K : jc_K} {l1 : Int} (hl1 : jb_r l1) {r : (jc_K × Int)} (h : fc73 K l1 = some r) (k : ∀ σ, jc_S σ0 r.1 σ → jb_r r.2 → Q (.inl (some (jb_v r.2)), σ)) : jc_W σ0 K (d + 2) 73 0 [some (.ref 79), some (jb_v l1), none] [] Q := by
  intro σ s
  unfold fc73 at h
  refine jaL0 (p := 1) rfl jM73 jq73_0 ?_
  refine jw_getP (p := 4) (i := 0) (q := 66) rfl jM73 jq73_1 rfl (jo_79 s.1) je_7_0 (jp_79_0 s.1) ?_
  refine jaL0 (p := 5) rfl jM73 jq73_4 ?_
  refine jw_callV [] jM73 jq73_5 rfl rfl (jo_79 s.1) rfl jM70 rfl rfl ?_
  obtain ⟨x1, b2, h2⟩ := jo_b h
  refine jd70  b2 (fun σ1 s1 r1 => ?_) σ s
  show jb_w (d + 2) 73 8 [some (.ref 79), some (jb_v l1), none] [(jb_v (x1.2)), (.ref 66)] σ1 Q
  refine jw_callV [(jb_v (x1.2))] jM73 jq73_8 rfl rfl (jo_66 s1.1) rfl jM3 rfl rfl ?_
  obtain ⟨x3, b4, h4⟩ := jo_b h2
  refine jd3 r1 b4 (fun σ3 s3 => ?_) σ1 s1
  show jb_w (d + 2) 73 11 [some (.ref 79), some (jb_v l1), none] [(.ref (x3.2))] σ3 Q
  refine jaS2 (p := 12) rfl jM73 jq73_11 ?_
  refine jaL2 (p := 13) rfl jM73 jq73_12 ?_
  refine jw_ifnull (p := 16) rfl jM73 jq73_13 (fun c5 => ?_) (fun c5 => ?_)
  · have h5 := jo_p c5 h4
    refine jw_iconst (p := 38) rfl jM73 jq73_37 ?_
    cases h5
    exact jw_iret jM73 jq73_38 (fun _ => Or.inl rfl) (k σ3 s3 (jb_rn rfl))
  · have h5 := jo_n c5 h4
    refine jaL2 (p := 17) rfl jM73 jq73_16 ?_
    obtain ⟨c6, h6⟩ := jo_i h5
    refine jc_getI (p := 20) (i := 2) rfl jM73 jq73_17 rfl (s3.pg c6).ob jn_4_2 s3 (jc_pgd c6) (by decide) rfl ?_
    refine jw_iconst (p := 21) rfl jM73 jq73_20 ?_
    refine jw_ic (p := 24) rfl jM73 jq73_21 (jc_lt (s3.r _ _) (jb_rn rfl)) (fun c7 => ?_) (fun c7 => ?_)
    · have h7 := jo_p c7 h6
      refine jw_iconst (p := 38) rfl jM73 jq73_37 ?_
      cases h7
      exact jw_iret jM73 jq73_38 (fun _ => Or.inl rfl) (k σ3 s3 (jb_rn rfl))
    · have h7 := jo_n c7 h6
      refine jaL2 (p := 25) rfl jM73 jq73_24 ?_
      refine jiL1 (p := 26) rfl jM73 jq73_25 ?_
      refine jw_callV [(jb_v l1)] jM73 jq73_26 rfl rfl (s3.pg c6).ob rfl jM42 rfl rfl ?_
      obtain ⟨x8, b9, h9⟩ := jo_b h7
      refine jd42 hl1 b9 (fun σ8 s8 r8 => ?_) σ3 s3
      show jb_w (d + 2) 73 29 [some (.ref 79), some (jb_v l1), some (.ref (x3.2))] [(jb_v (x8.2))] σ8 Q
      refine jw_iconst (p := 30) rfl jM73 jq73_29 ?_
      refine jw_ic (p := 33) rfl jM73 jq73_30 (jc_ne r8 (jb_rn rfl)) (fun c10 => ?_) (fun c10 => ?_)
      · have h10 := jo_n c10 h9
        refine jw_iconst (p := 38) rfl jM73 jq73_37 ?_
        cases h10
        exact jw_iret jM73 jq73_38 (fun _ => Or.inl rfl) (k σ8 s8 (jb_rn rfl))
      · have h10 := jo_p (Decidable.byContradiction c10) h9
        refine jw_iconst (p := 34) rfl jM73 jq73_33 ?_
        refine jw_goto jM73 jq73_34 ?_
        cases h10
        exact jw_iret jM73 jq73_38 (fun _ => Or.inr rfl) (k σ8 s8 (jb_rn rfl))
-- 74 PageLoom$Tree.topmostFull need 2
def fc74_12 : Nat → jc_K → Int → Int → Option (jc_K × Int)
  | 0, _, _, _ => none
  | m + 1, K, l1, l2 => if l2 < 0 then (some (K, l1)) else ((fc69 K l2).bind fun x2 => (fc3 (x2.1) (x2.2)).bind fun x4 => if x4.2 = 0 then (some (x4.1, l1)) else (if jc_pg (x4.1) (x4.2) then if 4 ≤ jc_i (x4.1) (x4.2) 2 then (if -2147483648 ≤ (l2 + (-1)) ∧ (l2 + (-1)) < 2147483648 then fc74_12 m (x4.1) l2 (l2 + (-1)) else none) else (some (x4.1, l1)) else none))
theorem jd74_12 {d : Nat} {σ0 : ib_H} {Q : ib_O → Prop} : ∀ (m : Nat) {K : jc_K} {l1 : Int} {l2 : Int} {o3 : Option Value} (hl1 : jb_r l1) (hl2 : jb_r l2) {r : (jc_K × Int)} (h : fc74_12 m K l1 l2 = some r) (k : ∀ σ, jc_S σ0 r.1 σ → jb_r r.2 → Q (.inl (some (jb_v r.2)), σ)), jc_W σ0 K (d + 2) 74 12 [some (.ref 79), some (jb_v l1), some (jb_v l2), o3] [] Q := by
  intro m
  induction m with
  | zero =>
    intro K l1 l2 o3 hl1 hl2 r h k
    cases h
  | succ m ih =>
    intro K l1 l2 o3 hl1 hl2 r h k σ s
    unfold fc74_12 at h
    refine jiL2 (p := 13) rfl jM74 jq74_12 ?_
    refine jw_if (p := 16) rfl jM74 jq74_13 (jc_lt hl2 jb_r0) (fun c1 => ?_) (fun c1 => ?_)
    · have h1 := jo_p c1 h
      refine jiL1 (p := 52) rfl jM74 jq74_51 ?_
      cases h1
      exact jw_iret jM74 jq74_52 (fun z => absurd z (by decide)) (k σ s hl1)
    · have h1 := jo_n c1 h
      refine jaL0 (p := 17) rfl jM74 jq74_16 ?_
      refine jw_getP (p := 20) (i := 0) (q := 66) rfl jM74 jq74_17 rfl (jo_79 s.1) je_7_0 (jp_79_0 s.1) ?_
      refine jaL0 (p := 21) rfl jM74 jq74_20 ?_
      refine jiL2 (p := 22) rfl jM74 jq74_21 ?_
      refine jw_callV [(jb_v l2)] jM74 jq74_22 rfl rfl (jo_79 s.1) rfl jM69 rfl rfl ?_
      obtain ⟨x2, b3, h3⟩ := jo_b h1
      refine jd69 hl2 b3 (fun σ2 s2 r2 => ?_) σ s
      show jb_w (d + 2) 74 25 [some (.ref 79), some (jb_v l1), some (jb_v l2), o3] [(jb_v (x2.2)), (.ref 66)] σ2 Q
      refine jw_callV [(jb_v (x2.2))] jM74 jq74_25 rfl rfl (jo_66 s2.1) rfl jM3 rfl rfl ?_
      obtain ⟨x4, b5, h5⟩ := jo_b h3
      refine jd3 r2 b5 (fun σ4 s4 => ?_) σ2 s2
      show jb_w (d + 2) 74 28 [some (.ref 79), some (jb_v l1), some (jb_v l2), o3] [(.ref (x4.2))] σ4 Q
      refine jaS3 (p := 29) rfl jM74 jq74_28 ?_
      refine jaL3 (p := 30) rfl jM74 jq74_29 ?_
      refine jw_ifnull (p := 33) rfl jM74 jq74_30 (fun c6 => ?_) (fun c6 => ?_)
      · have h6 := jo_p c6 h5
        refine jiL1 (p := 42) rfl jM74 jq74_41 ?_
        cases h6
        exact jw_iret jM74 jq74_42 (fun z => absurd z (by decide)) (k σ4 s4 hl1)
      · have h6 := jo_n c6 h5
        refine jaL3 (p := 34) rfl jM74 jq74_33 ?_
        obtain ⟨c7, h7⟩ := jo_i h6
        refine jc_getI (p := 37) (i := 2) rfl jM74 jq74_34 rfl (s4.pg c7).ob jn_4_2 s4 (jc_pgd c7) (by decide) rfl ?_
        refine jw_iconst (p := 38) rfl jM74 jq74_37 ?_
        refine jw_ic (p := 41) rfl jM74 jq74_38 (jc_ge (s4.r _ _) (jb_rn rfl)) (fun c8 => ?_) (fun c8 => ?_)
        · have h8 := jo_p c8 h7
          refine jiL2 (p := 44) rfl jM74 jq74_43 ?_
          refine jiS1 (p := 45) rfl jM74 jq74_44 ?_
          refine jiI2 (p := 48) rfl jM74 jq74_45 ?_
          refine jw_goto jM74 jq74_48 ?_
          obtain ⟨c9, h9⟩ := jo_i h8
          exact ih hl2 c9 h9 k σ4 s4
        · have h8 := jo_n c8 h7
          refine jiL1 (p := 42) rfl jM74 jq74_41 ?_
          cases h8
          exact jw_iret jM74 jq74_42 (fun z => absurd z (by decide)) (k σ4 s4 hl1)
def fc74 (K : jc_K) : Option (jc_K × Int) := if -2147483648 ≤ ((jc_i K 79 3) - 1) ∧ ((jc_i K 79 3) - 1) < 2147483648 then fc74_12 jo_N K (jc_i K 79 3) ((jc_i K 79 3) - 1) else none
theorem jd74 {d : Nat} {σ0 : ib_H} {Q : ib_O → Prop} {K : jc_K} {r : (jc_K × Int)} (h : fc74 K  = some r) (k : ∀ σ, jc_S σ0 r.1 σ → jb_r r.2 → Q (.inl (some (jb_v r.2)), σ)) : jc_W σ0 K (d + 2) 74 0 [some (.ref 79), none, none, none] [] Q := by
  intro σ s
  unfold fc74 at h
  refine jaL0 (p := 1) rfl jM74 jq74_0 ?_
  refine jc_getI (p := 4) (i := 3) rfl jM74 jq74_1 rfl (jo_79 s.1) jn_7_3 s (by decide) (by decide) rfl ?_
  refine jiS1 (p := 5) rfl jM74 jq74_4 ?_
  refine jaL0 (p := 6) rfl jM74 jq74_5 ?_
  refine jc_getI (p := 9) (i := 3) rfl jM74 jq74_6 rfl (jo_79 s.1) jn_7_3 s (by decide) (by decide) rfl ?_
  refine jw_iconst (p := 10) rfl jM74 jq74_9 ?_
  refine jw_isub (p := 11) rfl jM74 jq74_10 ?_
  refine jiS2 (p := 12) rfl jM74 jq74_11 ?_
  obtain ⟨c1, h1⟩ := jo_i h
  exact jd74_12 jo_N (s.r _ _) c1 h1 k σ s
-- 75 PageLoom$Tree.freePageBehind need 3
def fc75_4 : Nat → jc_K → Int → Int → Option (jc_K × Int)
  | 0, _, _, _ => none
  | m + 1, K, l1, l2 => if 24 ≤ l2 then (some (K, (-1))) else ((fc4 K l2).bind fun x2 => if x2.2 = 0 then (some (x2.1, l2)) else (if -2147483648 ≤ (l2 + 1) ∧ (l2 + 1) < 2147483648 then fc75_4 m (x2.1) l1 (l2 + 1) else none))
theorem jd75_4 {d : Nat} {σ0 : ib_H} {Q : ib_O → Prop} : ∀ (m : Nat) {K : jc_K} {l1 : Int} {l2 : Int} (hl1 : jb_r l1) (hl2 : jb_r l2) {r : (jc_K × Int)} (h : fc75_4 m K l1 l2 = some r) (k : ∀ σ, jc_S σ0 r.1 σ → jb_r r.2 → Q (.inl (some (jb_v r.2)), σ)), jc_W σ0 K (d + 3) 75 4 [some (.ref 79), some (jb_v l1), some (jb_v l2)] [] Q := by
  intro m
  induction m with
  | zero =>
    intro K l1 l2 hl1 hl2 r h k
    cases h
  | succ m ih =>
    intro K l1 l2 hl1 hl2 r h k σ s
    unfold fc75_4 at h
    refine jiL2 (p := 5) rfl jM75 jq75_4 ?_
    refine jw_bipush (p := 7) rfl jM75 jq75_5 (by decide) ?_
    refine jw_ic (p := 10) rfl jM75 jq75_7 (jc_ge hl2 (jb_rn rfl)) (fun c1 => ?_) (fun c1 => ?_)
    · have h1 := jo_p c1 h
      refine jw_iconst (p := 30) rfl jM75 jq75_29 ?_
      cases h1
      exact jw_iret jM75 jq75_30 (fun z => absurd z (by decide)) (k σ s (jb_rn rfl))
    · have h1 := jo_n c1 h
      refine jaL0 (p := 11) rfl jM75 jq75_10 ?_
      refine jw_getP (p := 14) (i := 0) (q := 66) rfl jM75 jq75_11 rfl (jo_79 s.1) je_7_0 (jp_79_0 s.1) ?_
      refine jiL2 (p := 15) rfl jM75 jq75_14 ?_
      refine jw_callV [(jb_v l2)] jM75 jq75_15 rfl rfl (jo_66 s.1) rfl jM4 rfl rfl ?_
      obtain ⟨x2, b3, h3⟩ := jo_b h1
      refine jd4 hl2 b3 (fun σ2 s2 r2 => ?_) σ s
      show jb_w (d + 3) 75 18 [some (.ref 79), some (jb_v l1), some (jb_v l2)] [(jb_v (x2.2))] σ2 Q
      refine jw_if (p := 21) rfl jM75 jq75_18 (jc_ne r2 jb_r0) (fun c4 => ?_) (fun c4 => ?_)
      · have h4 := jo_n c4 h3
        refine jiI2 (p := 26) rfl jM75 jq75_23 ?_
        refine jw_goto jM75 jq75_26 ?_
        obtain ⟨c5, h5⟩ := jo_i h4
        exact ih hl1 c5 h5 k σ2 s2
      · have h4 := jo_p (Decidable.byContradiction c4) h3
        refine jiL2 (p := 22) rfl jM75 jq75_21 ?_
        cases h4
        exact jw_iret jM75 jq75_22 (fun z => absurd z (by decide)) (k σ2 s2 hl2)
def fc75 (K : jc_K) (l1 : Int) : Option (jc_K × Int) := if -2147483648 ≤ (l1 + 1) ∧ (l1 + 1) < 2147483648 then fc75_4 jo_N K l1 (l1 + 1) else none
theorem jd75 {d : Nat} {σ0 : ib_H} {Q : ib_O → Prop} {K : jc_K} {l1 : Int} (hl1 : jb_r l1) {r : (jc_K × Int)} (h : fc75 K l1 = some r) (k : ∀ σ, jc_S σ0 r.1 σ → jb_r r.2 → Q (.inl (some (jb_v r.2)), σ)) : jc_W σ0 K (d + 3) 75 0 [some (.ref 79), some (jb_v l1), none] [] Q := by
  intro σ s
  unfold fc75 at h
  refine jiL1 (p := 1) rfl jM75 jq75_0 ?_
  refine jw_iconst (p := 2) rfl jM75 jq75_1 ?_
  refine jw_iadd (p := 3) rfl jM75 jq75_2 ?_
  refine jiS2 (p := 4) rfl jM75 jq75_3 ?_
  obtain ⟨c1, h1⟩ := jo_i h
  exact jd75_4 jo_N hl1 c1 h1 k σ s
-- 76 PageLoom$Tree.pagesSufficeToSplit need 4
def fc76 (K : jc_K) (l1 : Int) : Option (jc_K × Int) := (fc75 K 0).bind fun x1 => if x1.2 = (-1) then (some (x1.1, 0)) else (if 0 < l1 then (some (x1.1, 1)) else ((fc75 (x1.1) (x1.2)).bind fun x5 => if x5.2 = (-1) then (some (x5.1, 0)) else (some (x5.1, 1))))
theorem jd76 {d : Nat} {σ0 : ib_H} {Q : ib_O → Prop} {K : jc_K} {l1 : Int} (hl1 : jb_r l1) {r : (jc_K × Int)} (h : fc76 K l1 = some r) (k : ∀ σ, jc_S σ0 r.1 σ → jb_r r.2 → Q (.inl (some (jb_v r.2)), σ)) : jc_W σ0 K (d + 4) 76 0 [some (.ref 79), some (jb_v l1), none] [] Q := by
  intro σ s
  unfold fc76 at h
  refine jaL0 (p := 1) rfl jM76 jq76_0 ?_
  refine jw_iconst (p := 2) rfl jM76 jq76_1 ?_
  refine jw_callV [(jb_v 0)] jM76 jq76_2 rfl rfl (jo_79 s.1) rfl jM75 rfl rfl ?_
  obtain ⟨x1, b2, h2⟩ := jo_b h
  refine jd75 (jb_rn rfl) b2 (fun σ1 s1 r1 => ?_) σ s
  show jb_w (d + 4) 76 5 [some (.ref 79), some (jb_v l1), none] [(jb_v (x1.2))] σ1 Q
  refine jiS2 (p := 6) rfl jM76 jq76_5 ?_
  refine jiL2 (p := 7) rfl jM76 jq76_6 ?_
  refine jw_iconst (p := 8) rfl jM76 jq76_7 ?_
  refine jw_ic (p := 11) rfl jM76 jq76_8 (jc_eq r1 (jb_rn rfl)) (fun c3 => ?_) (fun c3 => ?_)
  · have h3 := jo_p c3 h2
    refine jw_iconst (p := 29) rfl jM76 jq76_28 ?_
    cases h3
    exact jw_iret jM76 jq76_29 (fun _ => Or.inl rfl) (k σ1 s1 (jb_rn rfl))
  · have h3 := jo_n c3 h2
    refine jiL1 (p := 12) rfl jM76 jq76_11 ?_
    refine jw_if (p := 15) rfl jM76 jq76_12 (jc_gt hl1 jb_r0) (fun c4 => ?_) (fun c4 => ?_)
    · have h4 := jo_p c4 h3
      refine jw_iconst (p := 25) rfl jM76 jq76_24 ?_
      refine jw_goto jM76 jq76_25 ?_
      cases h4
      exact jw_iret jM76 jq76_29 (fun _ => Or.inr rfl) (k σ1 s1 (jb_rn rfl))
    · have h4 := jo_n c4 h3
      refine jaL0 (p := 16) rfl jM76 jq76_15 ?_
      refine jiL2 (p := 17) rfl jM76 jq76_16 ?_
      refine jw_callV [(jb_v (x1.2))] jM76 jq76_17 rfl rfl (jo_79 s1.1) rfl jM75 rfl rfl ?_
      obtain ⟨x5, b6, h6⟩ := jo_b h4
      refine jd75 r1 b6 (fun σ5 s5 r5 => ?_) σ1 s1
      show jb_w (d + 4) 76 20 [some (.ref 79), some (jb_v l1), some (jb_v (x1.2))] [(jb_v (x5.2))] σ5 Q
      refine jw_iconst (p := 21) rfl jM76 jq76_20 ?_
      refine jw_ic (p := 24) rfl jM76 jq76_21 (jc_eq r5 (jb_rn rfl)) (fun c7 => ?_) (fun c7 => ?_)
      · have h7 := jo_p c7 h6
        refine jw_iconst (p := 29) rfl jM76 jq76_28 ?_
        cases h7
        exact jw_iret jM76 jq76_29 (fun _ => Or.inl rfl) (k σ5 s5 (jb_rn rfl))
      · have h7 := jo_n c7 h6
        refine jw_iconst (p := 25) rfl jM76 jq76_24 ?_
        refine jw_goto jM76 jq76_25 ?_
        cases h7
        exact jw_iret jM76 jq76_29 (fun _ => Or.inr rfl) (k σ5 s5 (jb_rn rfl))
-- 78 PageLoom$Tree.tellRootSplit need 4
def fc78 (K : jc_K) (l1 : Nat) (l2 : Nat) : Option (jc_K × Int) := if jc_pg K l2 then if -2147483648 ≤ ((jc_i K l2 2) + 1) ∧ ((jc_i K l2 2) + 1) < 2147483648 then if 0 ≤ ((jc_i K l2 2) + 1) then (fc75 K 0).bind fun x4 => (fc75 (x4.1) (x4.2)).bind fun x6 => if jc_rc (x6.1) l1 then (fc27 (x6.1) l1 0).bind fun x9 => if jc_pg (x9.1) (x9.2) then (fc34 (x9.1) (x9.2) 2).bind fun x12 => if jc_pg (x12.1) (x9.2) then if -2147483648 ≤ (((100 : Int) * 0) + (x4.2)) ∧ (((100 : Int) * 0) + (x4.2)) < 2147483648 then (fc45 (x12.1) (x9.2) 0 (((100 : Int) * 0) + (x4.2))).bind fun x16 => if jc_pg (x16.1) l2 then (fc38 (x16.1) l2 (((jc_i K l2 2) + 1) / 2)).bind fun x19 => if jc_pg (x19.1) (x9.2) then if -2147483648 ≤ ((100 * (x19.2)) + (x6.2)) ∧ ((100 * (x19.2)) + (x6.2)) < 2147483648 then (fc45 (x19.1) (x9.2) 1 ((100 * (x19.2)) + (x6.2))).bind fun x23 => if jc_rc (x23.1) l1 then (fc27 (x23.1) l1 (x4.2)).bind fun x26 => if jc_pg (x26.1) (x26.2) then (fc47 (x26.1) (x26.2) l2 0 (((jc_i K l2 2) + 1) / 2)).bind fun x29 => if jc_rc (x29.1) l1 then (fc27 (x29.1) l1 (x6.2)).bind fun x32 => if jc_pg (x32.1) l2 then if jc_pg (x32.1) (x32.2) then (fc47 (x32.1) (x32.2) l2 (((jc_i K l2 2) + 1) / 2) (jc_i (x32.1) l2 2)).bind fun x36 => some (x36.1, 0) else none else none else none else none else none else none else none else none else none else none else none else none else none else none else none
theorem jd78 {d : Nat} {σ0 : ib_H} {Q : ib_O → Prop} {K : jc_K} {l1 : Nat} {l2 : Nat} {r : (jc_K × Int)} (h : fc78 K l1 l2 = some r) (k : ∀ σ, jc_S σ0 r.1 σ → Q (.inl none, σ)) : jc_W σ0 K (d + 4) 78 0 [some (.ref 79), some (.ref l1), some (.ref l2), none, none, none, none] [] Q := by
  intro σ s
  unfold fc78 at h
  refine jaL2 (p := 1) rfl jM78 jq78_0 ?_
  obtain ⟨c1, h1⟩ := jo_i h
  refine jc_getI (p := 4) (i := 2) rfl jM78 jq78_1 rfl (s.pg c1).ob jn_4_2 s (jc_pgd c1) (by decide) rfl ?_
  refine jw_iconst (p := 5) rfl jM78 jq78_4 ?_
  refine jw_iadd (p := 6) rfl jM78 jq78_5 ?_
  refine jw_iconst (p := 7) rfl jM78 jq78_6 ?_
  obtain ⟨c2, h2⟩ := jo_i h1
  obtain ⟨c3, h3⟩ := jo_i h2
  refine jw_idiv (p := 8) rfl jM78 jq78_7 c3 c2 (by decide) (jb_rn rfl) ?_
  refine jiS3 (p := 9) rfl jM78 jq78_8 ?_
  refine jaL0 (p := 10) rfl jM78 jq78_9 ?_
  refine jw_iconst (p := 11) rfl jM78 jq78_10 ?_
  refine jw_callV [(jb_v 0)] jM78 jq78_11 rfl rfl (jo_79 s.1) rfl jM75 rfl rfl ?_
  obtain ⟨x4, b5, h5⟩ := jo_b h3
  refine jd75 (jb_rn rfl) b5 (fun σ4 s4 r4 => ?_) σ s
  show jb_w (d + 4) 78 14 [some (.ref 79), some (.ref l1), some (.ref l2), some (jb_v (((jc_i K l2 2) + 1) / 2)), none, none, none] [(jb_v (x4.2))] σ4 Q
  refine jiS4 (p := 16) rfl jM78 jq78_14 ?_
  refine jaL0 (p := 17) rfl jM78 jq78_16 ?_
  refine jiL4 (p := 19) rfl jM78 jq78_17 ?_
  refine jw_callV [(jb_v (x4.2))] jM78 jq78_19 rfl rfl (jo_79 s4.1) rfl jM75 rfl rfl ?_
  obtain ⟨x6, b7, h7⟩ := jo_b h5
  refine jd75 r4 b7 (fun σ6 s6 r6 => ?_) σ4 s4
  show jb_w (d + 4) 78 22 [some (.ref 79), some (.ref l1), some (.ref l2), some (jb_v (((jc_i K l2 2) + 1) / 2)), some (jb_v (x4.2)), none, none] [(jb_v (x6.2))] σ6 Q
  refine jiS5 (p := 24) rfl jM78 jq78_22 ?_
  refine jaL1 (p := 25) rfl jM78 jq78_24 ?_
  refine jw_iconst (p := 26) rfl jM78 jq78_25 ?_
  obtain ⟨c8, h8⟩ := jo_i h7
  refine jw_callV [(jb_v 0)] jM78 jq78_26 rfl rfl (s6.rc c8).ob rfl jM27 rfl rfl ?_
  obtain ⟨x9, b10, h10⟩ := jo_b h8
  refine jd27 (jb_rn rfl) b10 (fun σ9 s9 => ?_) σ6 s6
  show jb_w (d + 4) 78 29 [some (.ref 79), some (.ref l1), some (.ref l2), some (jb_v (((jc_i K l2 2) + 1) / 2)), some (jb_v (x4.2)), some (jb_v (x6.2)), none] [(.ref (x9.2))] σ9 Q
  refine jaS6 (p := 31) rfl jM78 jq78_29 ?_
  refine jaL6 (p := 33) rfl jM78 jq78_31 ?_
  refine jw_iconst (p := 34) rfl jM78 jq78_33 ?_
  obtain ⟨c11, h11⟩ := jo_i h10
  refine jw_callV [(jb_v 2)] jM78 jq78_34 rfl rfl (s9.pg c11).ob rfl jM34 rfl rfl ?_
  obtain ⟨x12, b13, h13⟩ := jo_b h11
  refine jd34 (jb_rn rfl) b13 (fun σ12 s12 => ?_) σ9 s9
  show jb_w (d + 4) 78 37 [some (.ref 79), some (.ref l1), some (.ref l2), some (jb_v (((jc_i K l2 2) + 1) / 2)), some (jb_v (x4.2)), some (jb_v (x6.2)), some (.ref (x9.2))] [] σ12 Q
  refine jaL6 (p := 39) rfl jM78 jq78_37 ?_
  refine jw_iconst (p := 40) rfl jM78 jq78_39 ?_
  refine jw_iconst (p := 41) rfl jM78 jq78_40 ?_
  refine jiL4 (p := 43) rfl jM78 jq78_41 ?_
  refine jw_callS [(jb_v 0), (jb_v (x4.2))] jM78 jq78_43 rfl rfl rfl jM33 rfl rfl ?_
  show jb_w (d + 3) 33 0 [some (jb_v 0), some (jb_v (x4.2))] [] σ12 (jb_k (d + 4) 78 43 [some (.ref 79), some (.ref l1), some (.ref l2), some (jb_v (((jc_i K l2 2) + 1) / 2)), some (jb_v (x4.2)), some (jb_v (x6.2)), some (.ref (x9.2))] [(jb_v 0), (.ref (x9.2))] Q)
  refine jw_bipush (p := 2) rfl jM33 jq33_0 (by decide) ?_
  refine jiL0 (p := 3) rfl jM33 jq33_2 ?_
  refine jw_imul (p := 4) rfl jM33 jq33_3 ?_
  refine jiL1 (p := 5) rfl jM33 jq33_4 ?_
  refine jw_iadd (p := 6) rfl jM33 jq33_5 ?_
  refine jw_iret jM33 jq33_6 (fun z => absurd z (by decide)) ?_
  show jb_w (d + 4) 78 46 [some (.ref 79), some (.ref l1), some (.ref l2), some (jb_v (((jc_i K l2 2) + 1) / 2)), some (jb_v (x4.2)), some (jb_v (x6.2)), some (.ref (x9.2))] [(jb_v (((100 : Int) * 0) + (x4.2))), (jb_v 0), (.ref (x9.2))] σ12 Q
  obtain ⟨c14, h14⟩ := jo_i h13
  obtain ⟨c15, h15⟩ := jo_i h14
  refine jw_callV [(jb_v 0), (jb_v (((100 : Int) * 0) + (x4.2)))] jM78 jq78_46 rfl rfl (s12.pg c14).ob rfl jM45 rfl rfl ?_
  obtain ⟨x16, b17, h17⟩ := jo_b h15
  refine jd45 (jb_rn rfl) c15 b17 (fun σ16 s16 => ?_) σ12 s12
  show jb_w (d + 4) 78 49 [some (.ref 79), some (.ref l1), some (.ref l2), some (jb_v (((jc_i K l2 2) + 1) / 2)), some (jb_v (x4.2)), some (jb_v (x6.2)), some (.ref (x9.2))] [] σ16 Q
  refine jaL6 (p := 51) rfl jM78 jq78_49 ?_
  refine jw_iconst (p := 52) rfl jM78 jq78_51 ?_
  refine jaL2 (p := 53) rfl jM78 jq78_52 ?_
  refine jiL3 (p := 54) rfl jM78 jq78_53 ?_
  obtain ⟨c18, h18⟩ := jo_i h17
  refine jw_callV [(jb_v (((jc_i K l2 2) + 1) / 2))] jM78 jq78_54 rfl rfl (s16.pg c18).ob rfl jM38 rfl rfl ?_
  obtain ⟨x19, b20, h20⟩ := jo_b h18
  refine jd38 (jb_r_div c3 c2 (by decide)) b20 (fun σ19 s19 r19 => ?_) σ16 s16
  show jb_w (d + 4) 78 57 [some (.ref 79), some (.ref l1), some (.ref l2), some (jb_v (((jc_i K l2 2) + 1) / 2)), some (jb_v (x4.2)), some (jb_v (x6.2)), some (.ref (x9.2))] [(jb_v (x19.2)), (jb_v 1), (.ref (x9.2))] σ19 Q
  refine jiL5 (p := 59) rfl jM78 jq78_57 ?_
  refine jw_callS [(jb_v (x19.2)), (jb_v (x6.2))] jM78 jq78_59 rfl rfl rfl jM33 rfl rfl ?_
  show jb_w (d + 3) 33 0 [some (jb_v (x19.2)), some (jb_v (x6.2))] [] σ19 (jb_k (d + 4) 78 59 [some (.ref 79), some (.ref l1), some (.ref l2), some (jb_v (((jc_i K l2 2) + 1) / 2)), some (jb_v (x4.2)), some (jb_v (x6.2)), some (.ref (x9.2))] [(jb_v 1), (.ref (x9.2))] Q)
  refine jw_bipush (p := 2) rfl jM33 jq33_0 (by decide) ?_
  refine jiL0 (p := 3) rfl jM33 jq33_2 ?_
  refine jw_imul (p := 4) rfl jM33 jq33_3 ?_
  refine jiL1 (p := 5) rfl jM33 jq33_4 ?_
  refine jw_iadd (p := 6) rfl jM33 jq33_5 ?_
  refine jw_iret jM33 jq33_6 (fun z => absurd z (by decide)) ?_
  show jb_w (d + 4) 78 62 [some (.ref 79), some (.ref l1), some (.ref l2), some (jb_v (((jc_i K l2 2) + 1) / 2)), some (jb_v (x4.2)), some (jb_v (x6.2)), some (.ref (x9.2))] [(jb_v ((100 * (x19.2)) + (x6.2))), (jb_v 1), (.ref (x9.2))] σ19 Q
  obtain ⟨c21, h21⟩ := jo_i h20
  obtain ⟨c22, h22⟩ := jo_i h21
  refine jw_callV [(jb_v 1), (jb_v ((100 * (x19.2)) + (x6.2)))] jM78 jq78_62 rfl rfl (s19.pg c21).ob rfl jM45 rfl rfl ?_
  obtain ⟨x23, b24, h24⟩ := jo_b h22
  refine jd45 (jb_rn rfl) c22 b24 (fun σ23 s23 => ?_) σ19 s19
  show jb_w (d + 4) 78 65 [some (.ref 79), some (.ref l1), some (.ref l2), some (jb_v (((jc_i K l2 2) + 1) / 2)), some (jb_v (x4.2)), some (jb_v (x6.2)), some (.ref (x9.2))] [] σ23 Q
  refine jaL1 (p := 66) rfl jM78 jq78_65 ?_
  refine jiL4 (p := 68) rfl jM78 jq78_66 ?_
  obtain ⟨c25, h25⟩ := jo_i h24
  refine jw_callV [(jb_v (x4.2))] jM78 jq78_68 rfl rfl (s23.rc c25).ob rfl jM27 rfl rfl ?_
  obtain ⟨x26, b27, h27⟩ := jo_b h25
  refine jd27 r4 b27 (fun σ26 s26 => ?_) σ23 s23
  show jb_w (d + 4) 78 71 [some (.ref 79), some (.ref l1), some (.ref l2), some (jb_v (((jc_i K l2 2) + 1) / 2)), some (jb_v (x4.2)), some (jb_v (x6.2)), some (.ref (x9.2))] [(.ref (x26.2))] σ26 Q
  refine jaL2 (p := 72) rfl jM78 jq78_71 ?_
  refine jw_iconst (p := 73) rfl jM78 jq78_72 ?_
  refine jiL3 (p := 74) rfl jM78 jq78_73 ?_
  obtain ⟨c28, h28⟩ := jo_i h27
  refine jw_callV [(.ref l2), (jb_v 0), (jb_v (((jc_i K l2 2) + 1) / 2))] jM78 jq78_74 rfl rfl (s26.pg c28).ob rfl jM47 rfl rfl ?_
  obtain ⟨x29, b30, h30⟩ := jo_b h28
  refine jd47 (jb_rn rfl) (jb_r_div c3 c2 (by decide)) b30 (fun σ29 s29 => ?_) σ26 s26
  show jb_w (d + 4) 78 77 [some (.ref 79), some (.ref l1), some (.ref l2), some (jb_v (((jc_i K l2 2) + 1) / 2)), some (jb_v (x4.2)), some (jb_v (x6.2)), some (.ref (x9.2))] [] σ29 Q
  refine jaL1 (p := 78) rfl jM78 jq78_77 ?_
  refine jiL5 (p := 80) rfl jM78 jq78_78 ?_
  obtain ⟨c31, h31⟩ := jo_i h30
  refine jw_callV [(jb_v (x6.2))] jM78 jq78_80 rfl rfl (s29.rc c31).ob rfl jM27 rfl rfl ?_
  obtain ⟨x32, b33, h33⟩ := jo_b h31
  refine jd27 r6 b33 (fun σ32 s32 => ?_) σ29 s29
  show jb_w (d + 4) 78 83 [some (.ref 79), some (.ref l1), some (.ref l2), some (jb_v (((jc_i K l2 2) + 1) / 2)), some (jb_v (x4.2)), some (jb_v (x6.2)), some (.ref (x9.2))] [(.ref (x32.2))] σ32 Q
  refine jaL2 (p := 84) rfl jM78 jq78_83 ?_
  refine jiL3 (p := 85) rfl jM78 jq78_84 ?_
  refine jaL2 (p := 86) rfl jM78 jq78_85 ?_
  obtain ⟨c34, h34⟩ := jo_i h33
  refine jc_getI (p := 89) (i := 2) rfl jM78 jq78_86 rfl (s32.pg c34).ob jn_4_2 s32 (jc_pgd c34) (by decide) rfl ?_
  obtain ⟨c35, h35⟩ := jo_i h34
  refine jw_callV [(.ref l2), (jb_v (((jc_i K l2 2) + 1) / 2)), (jb_v (jc_i (x32.1) l2 2))] jM78 jq78_89 rfl rfl (s32.pg c35).ob rfl jM47 rfl rfl ?_
  obtain ⟨x36, b37, h37⟩ := jo_b h35
  refine jd47 (jb_r_div c3 c2 (by decide)) (s32.r _ _) b37 (fun σ36 s36 => ?_) σ32 s32
  show jb_w (d + 4) 78 92 [some (.ref 79), some (.ref l1), some (.ref l2), some (jb_v (((jc_i K l2 2) + 1) / 2)), some (jb_v (x4.2)), some (jb_v (x6.2)), some (.ref (x9.2))] [] σ36 Q
  cases h37
  exact jw_vret jM78 jq78_92 (k σ36 s36)
-- 79 PageLoom$Tree.tellSplit need 4
def fc79 (K : jc_K) (l1 : Nat) (l2 : Nat) (l3 : Int) (l4 : Int) : Option (jc_K × Int) := if jc_pg K l2 then if -2147483648 ≤ ((jc_i K l2 2) + 1) ∧ ((jc_i K l2 2) + 1) < 2147483648 then if 0 ≤ ((jc_i K l2 2) + 1) then (fc75 K 0).bind fun x4 => (fc3 (x4.1) l4).bind fun x6 => if x6.2 = 0 then (some (x6.1, 0)) else (if jc_rc (x6.1) l1 then (fc27 (x6.1) l1 l4).bind fun x10 => if jc_pg (x10.1) (x10.2) then (fc35 (x10.1) (x10.2) (x6.2)).bind fun x13 => if jc_pg (x13.1) (x6.2) then (fc41 (x13.1) (x6.2) l3).bind fun x16 => if jc_pg (x16.1) l2 then (fc38 (x16.1) l2 (((jc_i K l2 2) + 1) / 2)).bind fun x19 => if jc_pg (x19.1) (x10.2) then if -2147483648 ≤ ((x16.2) + 1) ∧ ((x16.2) + 1) < 2147483648 then if -2147483648 ≤ ((100 * (x19.2)) + (x4.2)) ∧ ((100 * (x19.2)) + (x4.2)) < 2147483648 then (fc45 (x19.1) (x10.2) ((x16.2) + 1) ((100 * (x19.2)) + (x4.2))).bind fun x24 => if jc_rc (x24.1) l1 then (fc27 (x24.1) l1 l3).bind fun x27 => if jc_pg (x27.1) (x27.2) then (fc47 (x27.1) (x27.2) l2 0 (((jc_i K l2 2) + 1) / 2)).bind fun x30 => if jc_rc (x30.1) l1 then (fc27 (x30.1) l1 (x4.2)).bind fun x33 => if jc_pg (x33.1) l2 then if jc_pg (x33.1) (x33.2) then (fc47 (x33.1) (x33.2) l2 (((jc_i K l2 2) + 1) / 2) (jc_i (x33.1) l2 2)).bind fun x37 => some (x37.1, 0) else none else none else none else none else none else none else none else none else none else none else none else none) else none else none else none
theorem jd79 {d : Nat} {σ0 : ib_H} {Q : ib_O → Prop} {K : jc_K} {l1 : Nat} {l2 : Nat} {l3 : Int} {l4 : Int} (hl3 : jb_r l3) (hl4 : jb_r l4) {r : (jc_K × Int)} (h : fc79 K l1 l2 l3 l4 = some r) (k : ∀ σ, jc_S σ0 r.1 σ → Q (.inl none, σ)) : jc_W σ0 K (d + 4) 79 0 [some (.ref 79), some (.ref l1), some (.ref l2), some (jb_v l3), some (jb_v l4), none, none, none, none] [] Q := by
  intro σ s
  unfold fc79 at h
  refine jaL2 (p := 1) rfl jM79 jq79_0 ?_
  obtain ⟨c1, h1⟩ := jo_i h
  refine jc_getI (p := 4) (i := 2) rfl jM79 jq79_1 rfl (s.pg c1).ob jn_4_2 s (jc_pgd c1) (by decide) rfl ?_
  refine jw_iconst (p := 5) rfl jM79 jq79_4 ?_
  refine jw_iadd (p := 6) rfl jM79 jq79_5 ?_
  refine jw_iconst (p := 7) rfl jM79 jq79_6 ?_
  obtain ⟨c2, h2⟩ := jo_i h1
  obtain ⟨c3, h3⟩ := jo_i h2
  refine jw_idiv (p := 8) rfl jM79 jq79_7 c3 c2 (by decide) (jb_rn rfl) ?_
  refine jiS5 (p := 10) rfl jM79 jq79_8 ?_
  refine jaL0 (p := 11) rfl jM79 jq79_10 ?_
  refine jw_iconst (p := 12) rfl jM79 jq79_11 ?_
  refine jw_callV [(jb_v 0)] jM79 jq79_12 rfl rfl (jo_79 s.1) rfl jM75 rfl rfl ?_
  obtain ⟨x4, b5, h5⟩ := jo_b h3
  refine jd75 (jb_rn rfl) b5 (fun σ4 s4 r4 => ?_) σ s
  show jb_w (d + 4) 79 15 [some (.ref 79), some (.ref l1), some (.ref l2), some (jb_v l3), some (jb_v l4), some (jb_v (((jc_i K l2 2) + 1) / 2)), none, none, none] [(jb_v (x4.2))] σ4 Q
  refine jiS6 (p := 17) rfl jM79 jq79_15 ?_
  refine jaL0 (p := 18) rfl jM79 jq79_17 ?_
  refine jw_getP (p := 21) (i := 0) (q := 66) rfl jM79 jq79_18 rfl (jo_79 s4.1) je_7_0 (jp_79_0 s4.1) ?_
  refine jiL4 (p := 23) rfl jM79 jq79_21 ?_
  refine jw_callV [(jb_v l4)] jM79 jq79_23 rfl rfl (jo_66 s4.1) rfl jM3 rfl rfl ?_
  obtain ⟨x6, b7, h7⟩ := jo_b h5
  refine jd3 hl4 b7 (fun σ6 s6 => ?_) σ4 s4
  show jb_w (d + 4) 79 26 [some (.ref 79), some (.ref l1), some (.ref l2), some (jb_v l3), some (jb_v l4), some (jb_v (((jc_i K l2 2) + 1) / 2)), some (jb_v (x4.2)), none, none] [(.ref (x6.2))] σ6 Q
  refine jaS7 (p := 28) rfl jM79 jq79_26 ?_
  refine jaL7 (p := 30) rfl jM79 jq79_28 ?_
  refine jw_ifnonnull (p := 33) rfl jM79 jq79_30 (fun c8 => ?_) (fun c8 => ?_)
  · have h8 := jo_n c8 h7
    refine jaL1 (p := 35) rfl jM79 jq79_34 ?_
    refine jiL4 (p := 37) rfl jM79 jq79_35 ?_
    obtain ⟨c9, h9⟩ := jo_i h8
    refine jw_callV [(jb_v l4)] jM79 jq79_37 rfl rfl (s6.rc c9).ob rfl jM27 rfl rfl ?_
    obtain ⟨x10, b11, h11⟩ := jo_b h9
    refine jd27 hl4 b11 (fun σ10 s10 => ?_) σ6 s6
    show jb_w (d + 4) 79 40 [some (.ref 79), some (.ref l1), some (.ref l2), some (jb_v l3), some (jb_v l4), some (jb_v (((jc_i K l2 2) + 1) / 2)), some (jb_v (x4.2)), some (.ref (x6.2)), none] [(.ref (x10.2))] σ10 Q
    refine jaS8 (p := 42) rfl jM79 jq79_40 ?_
    refine jaL8 (p := 44) rfl jM79 jq79_42 ?_
    refine jaL7 (p := 46) rfl jM79 jq79_44 ?_
    obtain ⟨c12, h12⟩ := jo_i h11
    refine jw_callV [(.ref (x6.2))] jM79 jq79_46 rfl rfl (s10.pg c12).ob rfl jM35 rfl rfl ?_
    obtain ⟨x13, b14, h14⟩ := jo_b h12
    refine jd35  b14 (fun σ13 s13 => ?_) σ10 s10
    show jb_w (d + 4) 79 49 [some (.ref 79), some (.ref l1), some (.ref l2), some (jb_v l3), some (jb_v l4), some (jb_v (((jc_i K l2 2) + 1) / 2)), some (jb_v (x4.2)), some (.ref (x6.2)), some (.ref (x10.2))] [] σ13 Q
    refine jaL8 (p := 51) rfl jM79 jq79_49 ?_
    refine jaL7 (p := 53) rfl jM79 jq79_51 ?_
    refine jiL3 (p := 54) rfl jM79 jq79_53 ?_
    obtain ⟨c15, h15⟩ := jo_i h14
    refine jw_callV [(jb_v l3)] jM79 jq79_54 rfl rfl (s13.pg c15).ob rfl jM41 rfl rfl ?_
    obtain ⟨x16, b17, h17⟩ := jo_b h15
    refine jd41 hl3 b17 (fun σ16 s16 r16 => ?_) σ13 s13
    show jb_w (d + 4) 79 57 [some (.ref 79), some (.ref l1), some (.ref l2), some (jb_v l3), some (jb_v l4), some (jb_v (((jc_i K l2 2) + 1) / 2)), some (jb_v (x4.2)), some (.ref (x6.2)), some (.ref (x10.2))] [(jb_v (x16.2)), (.ref (x10.2))] σ16 Q
    refine jw_iconst (p := 58) rfl jM79 jq79_57 ?_
    refine jw_iadd (p := 59) rfl jM79 jq79_58 ?_
    refine jaL2 (p := 60) rfl jM79 jq79_59 ?_
    refine jiL5 (p := 62) rfl jM79 jq79_60 ?_
    obtain ⟨c18, h18⟩ := jo_i h17
    refine jw_callV [(jb_v (((jc_i K l2 2) + 1) / 2))] jM79 jq79_62 rfl rfl (s16.pg c18).ob rfl jM38 rfl rfl ?_
    obtain ⟨x19, b20, h20⟩ := jo_b h18
    refine jd38 (jb_r_div c3 c2 (by decide)) b20 (fun σ19 s19 r19 => ?_) σ16 s16
    show jb_w (d + 4) 79 65 [some (.ref 79), some (.ref l1), some (.ref l2), some (jb_v l3), some (jb_v l4), some (jb_v (((jc_i K l2 2) + 1) / 2)), some (jb_v (x4.2)), some (.ref (x6.2)), some (.ref (x10.2))] [(jb_v (x19.2)), (jb_v ((x16.2) + 1)), (.ref (x10.2))] σ19 Q
    refine jiL6 (p := 67) rfl jM79 jq79_65 ?_
    refine jw_callS [(jb_v (x19.2)), (jb_v (x4.2))] jM79 jq79_67 rfl rfl rfl jM33 rfl rfl ?_
    show jb_w (d + 3) 33 0 [some (jb_v (x19.2)), some (jb_v (x4.2))] [] σ19 (jb_k (d + 4) 79 67 [some (.ref 79), some (.ref l1), some (.ref l2), some (jb_v l3), some (jb_v l4), some (jb_v (((jc_i K l2 2) + 1) / 2)), some (jb_v (x4.2)), some (.ref (x6.2)), some (.ref (x10.2))] [(jb_v ((x16.2) + 1)), (.ref (x10.2))] Q)
    refine jw_bipush (p := 2) rfl jM33 jq33_0 (by decide) ?_
    refine jiL0 (p := 3) rfl jM33 jq33_2 ?_
    refine jw_imul (p := 4) rfl jM33 jq33_3 ?_
    refine jiL1 (p := 5) rfl jM33 jq33_4 ?_
    refine jw_iadd (p := 6) rfl jM33 jq33_5 ?_
    refine jw_iret jM33 jq33_6 (fun z => absurd z (by decide)) ?_
    show jb_w (d + 4) 79 70 [some (.ref 79), some (.ref l1), some (.ref l2), some (jb_v l3), some (jb_v l4), some (jb_v (((jc_i K l2 2) + 1) / 2)), some (jb_v (x4.2)), some (.ref (x6.2)), some (.ref (x10.2))] [(jb_v ((100 * (x19.2)) + (x4.2))), (jb_v ((x16.2) + 1)), (.ref (x10.2))] σ19 Q
    obtain ⟨c21, h21⟩ := jo_i h20
    obtain ⟨c22, h22⟩ := jo_i h21
    obtain ⟨c23, h23⟩ := jo_i h22
    refine jw_callV [(jb_v ((x16.2) + 1)), (jb_v ((100 * (x19.2)) + (x4.2)))] jM79 jq79_70 rfl rfl (s19.pg c21).ob rfl jM45 rfl rfl ?_
    obtain ⟨x24, b25, h25⟩ := jo_b h23
    refine jd45 c22 c23 b25 (fun σ24 s24 => ?_) σ19 s19
    show jb_w (d + 4) 79 73 [some (.ref 79), some (.ref l1), some (.ref l2), some (jb_v l3), some (jb_v l4), some (jb_v (((jc_i K l2 2) + 1) / 2)), some (jb_v (x4.2)), some (.ref (x6.2)), some (.ref (x10.2))] [] σ24 Q
    refine jaL1 (p := 74) rfl jM79 jq79_73 ?_
    refine jiL3 (p := 75) rfl jM79 jq79_74 ?_
    obtain ⟨c26, h26⟩ := jo_i h25
    refine jw_callV [(jb_v l3)] jM79 jq79_75 rfl rfl (s24.rc c26).ob rfl jM27 rfl rfl ?_
    obtain ⟨x27, b28, h28⟩ := jo_b h26
    refine jd27 hl3 b28 (fun σ27 s27 => ?_) σ24 s24
    show jb_w (d + 4) 79 78 [some (.ref 79), some (.ref l1), some (.ref l2), some (jb_v l3), some (jb_v l4), some (jb_v (((jc_i K l2 2) + 1) / 2)), some (jb_v (x4.2)), some (.ref (x6.2)), some (.ref (x10.2))] [(.ref (x27.2))] σ27 Q
    refine jaL2 (p := 79) rfl jM79 jq79_78 ?_
    refine jw_iconst (p := 80) rfl jM79 jq79_79 ?_
    refine jiL5 (p := 82) rfl jM79 jq79_80 ?_
    obtain ⟨c29, h29⟩ := jo_i h28
    refine jw_callV [(.ref l2), (jb_v 0), (jb_v (((jc_i K l2 2) + 1) / 2))] jM79 jq79_82 rfl rfl (s27.pg c29).ob rfl jM47 rfl rfl ?_
    obtain ⟨x30, b31, h31⟩ := jo_b h29
    refine jd47 (jb_rn rfl) (jb_r_div c3 c2 (by decide)) b31 (fun σ30 s30 => ?_) σ27 s27
    show jb_w (d + 4) 79 85 [some (.ref 79), some (.ref l1), some (.ref l2), some (jb_v l3), some (jb_v l4), some (jb_v (((jc_i K l2 2) + 1) / 2)), some (jb_v (x4.2)), some (.ref (x6.2)), some (.ref (x10.2))] [] σ30 Q
    refine jaL1 (p := 86) rfl jM79 jq79_85 ?_
    refine jiL6 (p := 88) rfl jM79 jq79_86 ?_
    obtain ⟨c32, h32⟩ := jo_i h31
    refine jw_callV [(jb_v (x4.2))] jM79 jq79_88 rfl rfl (s30.rc c32).ob rfl jM27 rfl rfl ?_
    obtain ⟨x33, b34, h34⟩ := jo_b h32
    refine jd27 r4 b34 (fun σ33 s33 => ?_) σ30 s30
    show jb_w (d + 4) 79 91 [some (.ref 79), some (.ref l1), some (.ref l2), some (jb_v l3), some (jb_v l4), some (jb_v (((jc_i K l2 2) + 1) / 2)), some (jb_v (x4.2)), some (.ref (x6.2)), some (.ref (x10.2))] [(.ref (x33.2))] σ33 Q
    refine jaL2 (p := 92) rfl jM79 jq79_91 ?_
    refine jiL5 (p := 94) rfl jM79 jq79_92 ?_
    refine jaL2 (p := 95) rfl jM79 jq79_94 ?_
    obtain ⟨c35, h35⟩ := jo_i h34
    refine jc_getI (p := 98) (i := 2) rfl jM79 jq79_95 rfl (s33.pg c35).ob jn_4_2 s33 (jc_pgd c35) (by decide) rfl ?_
    obtain ⟨c36, h36⟩ := jo_i h35
    refine jw_callV [(.ref l2), (jb_v (((jc_i K l2 2) + 1) / 2)), (jb_v (jc_i (x33.1) l2 2))] jM79 jq79_98 rfl rfl (s33.pg c36).ob rfl jM47 rfl rfl ?_
    obtain ⟨x37, b38, h38⟩ := jo_b h36
    refine jd47 (jb_r_div c3 c2 (by decide)) (s33.r _ _) b38 (fun σ37 s37 => ?_) σ33 s33
    show jb_w (d + 4) 79 101 [some (.ref 79), some (.ref l1), some (.ref l2), some (jb_v l3), some (jb_v l4), some (jb_v (((jc_i K l2 2) + 1) / 2)), some (jb_v (x4.2)), some (.ref (x6.2)), some (.ref (x10.2))] [] σ37 Q
    cases h38
    exact jw_vret jM79 jq79_101 (k σ37 s37)
  · have h8 := jo_p c8 h7
    cases h8
    exact jw_vret jM79 jq79_33 (k σ6 s6)
-- 77 PageLoom$Tree.split need 5
def fc77 (K : jc_K) (l1 : Int) : Option (jc_K × Int) := (fc69 K l1).bind fun x1 => (fc3 (x1.1) (x1.2)).bind fun x3 => (fc20 (x3.1) 5 (-1)).bind fun x5 => if x3.2 = 0 then (some (x5.1, 0)) else (if x5.2 = 0 then (some (x5.1, 0)) else (if l1 = 0 then ((fc78 (x5.1) (x5.2) (x3.2)).bind fun x20 => (fc80 (x20.1) (jc_i (x20.1) 63 4)).bind fun x22 => if x22.2 = 0 ∨ x22.2 = 1 then some (x22.1, x22.2) else none) else ((fc69 (x5.1) l1).bind fun x10 => if -2147483648 ≤ (l1 - 1) ∧ (l1 - 1) < 2147483648 then (fc69 (x10.1) (l1 - 1)).bind fun x13 => (fc79 (x13.1) (x5.2) (x3.2) (x10.2) (x13.2)).bind fun x15 => (fc80 (x15.1) (jc_i (x15.1) 63 4)).bind fun x17 => if x17.2 = 0 ∨ x17.2 = 1 then some (x17.1, x17.2) else none else none)))
theorem jd77 {d : Nat} {σ0 : ib_H} {Q : ib_O → Prop} {K : jc_K} {l1 : Int} (hl1 : jb_r l1) {r : (jc_K × Int)} (h : fc77 K l1 = some r) (k : ∀ σ, jc_S σ0 r.1 σ → jb_r r.2 → Q (.inl (some (jb_v r.2)), σ)) : jc_W σ0 K (d + 5) 77 0 [some (.ref 79), some (jb_v l1), none, none] [] Q := by
  intro σ s
  unfold fc77 at h
  refine jaL0 (p := 1) rfl jM77 jq77_0 ?_
  refine jw_getP (p := 4) (i := 0) (q := 66) rfl jM77 jq77_1 rfl (jo_79 s.1) je_7_0 (jp_79_0 s.1) ?_
  refine jaL0 (p := 5) rfl jM77 jq77_4 ?_
  refine jiL1 (p := 6) rfl jM77 jq77_5 ?_
  refine jw_callV [(jb_v l1)] jM77 jq77_6 rfl rfl (jo_79 s.1) rfl jM69 rfl rfl ?_
  obtain ⟨x1, b2, h2⟩ := jo_b h
  refine jd69 hl1 b2 (fun σ1 s1 r1 => ?_) σ s
  show jb_w (d + 5) 77 9 [some (.ref 79), some (jb_v l1), none, none] [(jb_v (x1.2)), (.ref 66)] σ1 Q
  refine jw_callV [(jb_v (x1.2))] jM77 jq77_9 rfl rfl (jo_66 s1.1) rfl jM3 rfl rfl ?_
  obtain ⟨x3, b4, h4⟩ := jo_b h2
  refine jd3 r1 b4 (fun σ3 s3 => ?_) σ1 s1
  show jb_w (d + 5) 77 12 [some (.ref 79), some (jb_v l1), none, none] [(.ref (x3.2))] σ3 Q
  refine jaS2 (p := 13) rfl jM77 jq77_12 ?_
  refine jaL0 (p := 14) rfl jM77 jq77_13 ?_
  refine jw_getP (p := 17) (i := 1) (q := 63) rfl jM77 jq77_14 rfl (jo_79 s3.1) je_7_1 (jp_79_1 s3.1) ?_
  refine jw_iconst (p := 18) rfl jM77 jq77_17 ?_
  refine jw_iconst (p := 19) rfl jM77 jq77_18 ?_
  refine jw_callV [(jb_v 5), (jb_v (-1))] jM77 jq77_19 rfl rfl (jo_63 s3.1) rfl jM20 rfl rfl ?_
  obtain ⟨x5, b6, h6⟩ := jo_b h4
  refine jd20 (jb_rn rfl) (jb_rn rfl) b6 (fun σ5 s5 => ?_) σ3 s3
  show jb_w (d + 5) 77 22 [some (.ref 79), some (jb_v l1), some (.ref (x3.2)), none] [(.ref (x5.2))] σ5 Q
  refine jaS3 (p := 23) rfl jM77 jq77_22 ?_
  refine jaL2 (p := 24) rfl jM77 jq77_23 ?_
  refine jw_ifnull (p := 27) rfl jM77 jq77_24 (fun c7 => ?_) (fun c7 => ?_)
  · have h7 := jo_p c7 h6
    refine jw_iconst (p := 32) rfl jM77 jq77_31 ?_
    cases h7
    exact jw_iret jM77 jq77_32 (fun _ => Or.inl rfl) (k σ5 s5 (jb_rn rfl))
  · have h7 := jo_n c7 h6
    refine jaL3 (p := 28) rfl jM77 jq77_27 ?_
    refine jw_ifnonnull (p := 31) rfl jM77 jq77_28 (fun c8 => ?_) (fun c8 => ?_)
    · have h8 := jo_n c8 h7
      refine jiL1 (p := 34) rfl jM77 jq77_33 ?_
      refine jw_if (p := 37) rfl jM77 jq77_34 (jc_ne hl1 jb_r0) (fun c9 => ?_) (fun c9 => ?_)
      · have h9 := jo_n c9 h8
        refine jaL0 (p := 47) rfl jM77 jq77_46 ?_
        refine jaL3 (p := 48) rfl jM77 jq77_47 ?_
        refine jaL2 (p := 49) rfl jM77 jq77_48 ?_
        refine jaL0 (p := 50) rfl jM77 jq77_49 ?_
        refine jiL1 (p := 51) rfl jM77 jq77_50 ?_
        refine jw_callV [(jb_v l1)] jM77 jq77_51 rfl rfl (jo_79 s5.1) rfl jM69 rfl rfl ?_
        obtain ⟨x10, b11, h11⟩ := jo_b h9
        refine jd69 hl1 b11 (fun σ10 s10 r10 => ?_) σ5 s5
        show jb_w (d + 5) 77 54 [some (.ref 79), some (jb_v l1), some (.ref (x3.2)), some (.ref (x5.2))] [(jb_v (x10.2)), (.ref (x3.2)), (.ref (x5.2)), (.ref 79)] σ10 Q
        refine jaL0 (p := 55) rfl jM77 jq77_54 ?_
        refine jiL1 (p := 56) rfl jM77 jq77_55 ?_
        refine jw_iconst (p := 57) rfl jM77 jq77_56 ?_
        refine jw_isub (p := 58) rfl jM77 jq77_57 ?_
        obtain ⟨c12, h12⟩ := jo_i h11
        refine jw_callV [(jb_v (l1 - 1))] jM77 jq77_58 rfl rfl (jo_79 s10.1) rfl jM69 rfl rfl ?_
        obtain ⟨x13, b14, h14⟩ := jo_b h12
        refine jd69 c12 b14 (fun σ13 s13 r13 => ?_) σ10 s10
        show jb_w (d + 5) 77 61 [some (.ref 79), some (jb_v l1), some (.ref (x3.2)), some (.ref (x5.2))] [(jb_v (x13.2)), (jb_v (x10.2)), (.ref (x3.2)), (.ref (x5.2)), (.ref 79)] σ13 Q
        refine jw_callV [(.ref (x5.2)), (.ref (x3.2)), (jb_v (x10.2)), (jb_v (x13.2))] jM77 jq77_61 rfl rfl (jo_79 s13.1) rfl jM79 rfl rfl ?_
        obtain ⟨x15, b16, h16⟩ := jo_b h14
        refine jd79 r10 r13 b16 (fun σ15 s15 => ?_) σ13 s13
        show jb_w (d + 5) 77 64 [some (.ref 79), some (jb_v l1), some (.ref (x3.2)), some (.ref (x5.2))] [] σ15 Q
        refine jaL0 (p := 65) rfl jM77 jq77_64 ?_
        refine jaL0 (p := 66) rfl jM77 jq77_65 ?_
        refine jw_getP (p := 69) (i := 1) (q := 63) rfl jM77 jq77_66 rfl (jo_79 s15.1) je_7_1 (jp_79_1 s15.1) ?_
        refine jc_getI (p := 72) (i := 4) rfl jM77 jq77_69 rfl (jo_63 s15.1) jn_2_4 s15 (by decide) (by decide) rfl ?_
        refine jw_callV [(jb_v (jc_i (x15.1) 63 4))] jM77 jq77_72 rfl rfl (jo_79 s15.1) rfl jM80 rfl rfl ?_
        obtain ⟨x17, b18, h18⟩ := jo_b h16
        refine jd80 (s15.r _ _) b18 (fun σ17 s17 r17 => ?_) σ15 s15
        show jb_w (d + 5) 77 75 [some (.ref 79), some (jb_v l1), some (.ref (x3.2)), some (.ref (x5.2))] [(jb_v (x17.2))] σ17 Q
        obtain ⟨c19, h19⟩ := jo_i h18
        cases h19
        exact jw_iret jM77 jq77_75 (fun _ => c19) (k σ17 s17 r17)
      · have h9 := jo_p (Decidable.byContradiction c9) h8
        refine jaL0 (p := 38) rfl jM77 jq77_37 ?_
        refine jaL3 (p := 39) rfl jM77 jq77_38 ?_
        refine jaL2 (p := 40) rfl jM77 jq77_39 ?_
        refine jw_callV [(.ref (x5.2)), (.ref (x3.2))] jM77 jq77_40 rfl rfl (jo_79 s5.1) rfl jM78 rfl rfl ?_
        obtain ⟨x20, b21, h21⟩ := jo_b h9
        refine jd78  b21 (fun σ20 s20 => ?_) σ5 s5
        show jb_w (d + 5) 77 43 [some (.ref 79), some (jb_v l1), some (.ref (x3.2)), some (.ref (x5.2))] [] σ20 Q
        refine jw_goto jM77 jq77_43 ?_
        refine jaL0 (p := 65) rfl jM77 jq77_64 ?_
        refine jaL0 (p := 66) rfl jM77 jq77_65 ?_
        refine jw_getP (p := 69) (i := 1) (q := 63) rfl jM77 jq77_66 rfl (jo_79 s20.1) je_7_1 (jp_79_1 s20.1) ?_
        refine jc_getI (p := 72) (i := 4) rfl jM77 jq77_69 rfl (jo_63 s20.1) jn_2_4 s20 (by decide) (by decide) rfl ?_
        refine jw_callV [(jb_v (jc_i (x20.1) 63 4))] jM77 jq77_72 rfl rfl (jo_79 s20.1) rfl jM80 rfl rfl ?_
        obtain ⟨x22, b23, h23⟩ := jo_b h21
        refine jd80 (s20.r _ _) b23 (fun σ22 s22 r22 => ?_) σ20 s20
        show jb_w (d + 5) 77 75 [some (.ref 79), some (jb_v l1), some (.ref (x3.2)), some (.ref (x5.2))] [(jb_v (x22.2))] σ22 Q
        obtain ⟨c24, h24⟩ := jo_i h23
        cases h24
        exact jw_iret jM77 jq77_75 (fun _ => c24) (k σ22 s22 r22)
    · have h8 := jo_p c8 h7
      refine jw_iconst (p := 32) rfl jM77 jq77_31 ?_
      cases h8
      exact jw_iret jM77 jq77_32 (fun _ => Or.inl rfl) (k σ5 s5 (jb_rn rfl))
-- 81 PageLoom$Tree.endIsBare need 2
def fc81 (K : jc_K) : Option (jc_K × Int) := (fc70 K ).bind fun x1 => (fc3 (x1.1) (x1.2)).bind fun x3 => if jc_i (x3.1) 79 3 ≤ 0 then (some (x3.1, 0)) else (if x3.2 = 0 then (some (x3.1, 0)) else (if jc_pg (x3.1) (x3.2) then (fc36 (x3.1) (x3.2)).bind fun x8 => if x8.2 = 0 then (some (x8.1, 0)) else (some (x8.1, 1)) else none))
theorem jd81 {d : Nat} {σ0 : ib_H} {Q : ib_O → Prop} {K : jc_K} {r : (jc_K × Int)} (h : fc81 K  = some r) (k : ∀ σ, jc_S σ0 r.1 σ → jb_r r.2 → Q (.inl (some (jb_v r.2)), σ)) : jc_W σ0 K (d + 2) 81 0 [some (.ref 79), none] [] Q := by
  intro σ s
  unfold fc81 at h
  refine jaL0 (p := 1) rfl jM81 jq81_0 ?_
  refine jw_getP (p := 4) (i := 0) (q := 66) rfl jM81 jq81_1 rfl (jo_79 s.1) je_7_0 (jp_79_0 s.1) ?_
  refine jaL0 (p := 5) rfl jM81 jq81_4 ?_
  refine jw_callV [] jM81 jq81_5 rfl rfl (jo_79 s.1) rfl jM70 rfl rfl ?_
  obtain ⟨x1, b2, h2⟩ := jo_b h
  refine jd70  b2 (fun σ1 s1 r1 => ?_) σ s
  show jb_w (d + 2) 81 8 [some (.ref 79), none] [(jb_v (x1.2)), (.ref 66)] σ1 Q
  refine jw_callV [(jb_v (x1.2))] jM81 jq81_8 rfl rfl (jo_66 s1.1) rfl jM3 rfl rfl ?_
  obtain ⟨x3, b4, h4⟩ := jo_b h2
  refine jd3 r1 b4 (fun σ3 s3 => ?_) σ1 s1
  show jb_w (d + 2) 81 11 [some (.ref 79), none] [(.ref (x3.2))] σ3 Q
  refine jaS1 (p := 12) rfl jM81 jq81_11 ?_
  refine jaL0 (p := 13) rfl jM81 jq81_12 ?_
  refine jc_getI (p := 16) (i := 3) rfl jM81 jq81_13 rfl (jo_79 s3.1) jn_7_3 s3 (by decide) (by decide) rfl ?_
  refine jw_if (p := 19) rfl jM81 jq81_16 (jc_le (s3.r _ _) jb_r0) (fun c5 => ?_) (fun c5 => ?_)
  · have h5 := jo_p c5 h4
    refine jw_iconst (p := 35) rfl jM81 jq81_34 ?_
    cases h5
    exact jw_iret jM81 jq81_35 (fun _ => Or.inl rfl) (k σ3 s3 (jb_rn rfl))
  · have h5 := jo_n c5 h4
    refine jaL1 (p := 20) rfl jM81 jq81_19 ?_
    refine jw_ifnull (p := 23) rfl jM81 jq81_20 (fun c6 => ?_) (fun c6 => ?_)
    · have h6 := jo_p c6 h5
      refine jw_iconst (p := 35) rfl jM81 jq81_34 ?_
      cases h6
      exact jw_iret jM81 jq81_35 (fun _ => Or.inl rfl) (k σ3 s3 (jb_rn rfl))
    · have h6 := jo_n c6 h5
      refine jaL1 (p := 24) rfl jM81 jq81_23 ?_
      obtain ⟨c7, h7⟩ := jo_i h6
      refine jw_callV [] jM81 jq81_24 rfl rfl (s3.pg c7).ob rfl jM36 rfl rfl ?_
      obtain ⟨x8, b9, h9⟩ := jo_b h7
      refine jd36  b9 (fun σ8 s8 r8 => ?_) σ3 s3
      show jb_w (d + 2) 81 27 [some (.ref 79), some (.ref (x3.2))] [(jb_v (x8.2))] σ8 Q
      refine jw_if (p := 30) rfl jM81 jq81_27 (jc_eq r8 jb_r0) (fun c10 => ?_) (fun c10 => ?_)
      · have h10 := jo_p c10 h9
        refine jw_iconst (p := 35) rfl jM81 jq81_34 ?_
        cases h10
        exact jw_iret jM81 jq81_35 (fun _ => Or.inl rfl) (k σ8 s8 (jb_rn rfl))
      · have h10 := jo_n c10 h9
        refine jw_iconst (p := 31) rfl jM81 jq81_30 ?_
        refine jw_goto jM81 jq81_31 ?_
        cases h10
        exact jw_iret jM81 jq81_35 (fun _ => Or.inr rfl) (k σ8 s8 (jb_rn rfl))
-- 82 PageLoom$Tree.stepUp need 2
def fc82 (K : jc_K) : Option (jc_K × Int) := if jc_i K 79 3 ≤ 0 then ((fc70 K ).bind fun x2 => some (x2.1, x2.2)) else (if -2147483648 ≤ ((jc_i K 79 3) - 1) ∧ ((jc_i K 79 3) - 1) < 2147483648 then (fc70 (jc_ui K 79 3 ((jc_i K 79 3) - 1)) ).bind fun x6 => some (x6.1, x6.2) else none)
theorem jd82 {d : Nat} {σ0 : ib_H} {Q : ib_O → Prop} {K : jc_K} {r : (jc_K × Int)} (h : fc82 K  = some r) (k : ∀ σ, jc_S σ0 r.1 σ → jb_r r.2 → Q (.inl (some (jb_v r.2)), σ)) : jc_W σ0 K (d + 2) 82 0 [some (.ref 79)] [] Q := by
  intro σ s
  unfold fc82 at h
  refine jaL0 (p := 1) rfl jM82 jq82_0 ?_
  refine jc_getI (p := 4) (i := 3) rfl jM82 jq82_1 rfl (jo_79 s.1) jn_7_3 s (by decide) (by decide) rfl ?_
  refine jw_if (p := 7) rfl jM82 jq82_4 (jc_le (s.r _ _) jb_r0) (fun c1 => ?_) (fun c1 => ?_)
  · have h1 := jo_p c1 h
    refine jaL0 (p := 18) rfl jM82 jq82_17 ?_
    refine jw_callV [] jM82 jq82_18 rfl rfl (jo_79 s.1) rfl jM70 rfl rfl ?_
    obtain ⟨x2, b3, h3⟩ := jo_b h1
    refine jd70  b3 (fun σ2 s2 r2 => ?_) σ s
    show jb_w (d + 2) 82 21 [some (.ref 79)] [(jb_v (x2.2))] σ2 Q
    cases h3
    exact jw_iret jM82 jq82_21 (fun z => absurd z (by decide)) (k σ2 s2 r2)
  · have h1 := jo_n c1 h
    refine jaL0 (p := 8) rfl jM82 jq82_7 ?_
    refine jw_dupA (p := 9) rfl jM82 jq82_8 ?_
    refine jc_getI (p := 12) (i := 3) rfl jM82 jq82_9 rfl (jo_79 s.1) jn_7_3 s (by decide) (by decide) rfl ?_
    refine jw_iconst (p := 13) rfl jM82 jq82_12 ?_
    refine jw_isub (p := 14) rfl jM82 jq82_13 ?_
    obtain ⟨c4, h4⟩ := jo_i h1
    refine jc_putI (p := 17) (i := 3) rfl jM82 jq82_14 rfl (jo_79 s.1) (Or.inl jz_7_3) s (by decide) (by decide) c4 ?_
    intro σ5 s5
    refine jaL0 (p := 18) rfl jM82 jq82_17 ?_
    refine jw_callV [] jM82 jq82_18 rfl rfl (jo_79 s5.1) rfl jM70 rfl rfl ?_
    obtain ⟨x6, b7, h7⟩ := jo_b h4
    refine jd70  b7 (fun σ6 s6 r6 => ?_) σ5 s5
    show jb_w (d + 2) 82 21 [some (.ref 79)] [(jb_v (x6.2))] σ6 Q
    cases h7
    exact jw_iret jM82 jq82_21 (fun z => absurd z (by decide)) (k σ6 s6 r6)
-- 90 PageLoom$Undoing.lookAtAlone need 0
def fc90_2 : Nat → jc_K → Int → Int → Option (jc_K × Int)
  | 0, _, _, _ => none
  | m + 1, K, l1, l2 => if 4 ≤ l2 then (some (K, 0)) else (if l2 = l1 then (if 0 ≤ l2 ∧ l2 < 4 then if -2147483648 ≤ (l2 + 1) ∧ (l2 + 1) < 2147483648 then fc90_2 m (jc_ui K 82 l2 (jc_i K 59 l2)) l1 (l2 + 1) else none else none) else (if 0 ≤ l2 ∧ l2 < 4 then if -2147483648 ≤ (l2 + 1) ∧ (l2 + 1) < 2147483648 then fc90_2 m (jc_ui K 82 l2 (-1)) l1 (l2 + 1) else none else none))
theorem jd90_2 {d : Nat} {σ0 : ib_H} {Q : ib_O → Prop} : ∀ (m : Nat) {K : jc_K} {l1 : Int} {l2 : Int} (hl1 : jb_r l1) (hl2 : jb_r l2) {r : (jc_K × Int)} (h : fc90_2 m K l1 l2 = some r) (k : ∀ σ, jc_S σ0 r.1 σ → Q (.inl none, σ)), jc_W σ0 K d 90 2 [some (.ref 81), some (jb_v l1), some (jb_v l2)] [] Q := by
  intro m
  induction m with
  | zero =>
    intro K l1 l2 hl1 hl2 r h k
    cases h
  | succ m ih =>
    intro K l1 l2 hl1 hl2 r h k σ s
    unfold fc90_2 at h
    refine jiL2 (p := 3) rfl jM90 jq90_2 ?_
    refine jw_iconst (p := 4) rfl jM90 jq90_3 ?_
    refine jw_ic (p := 7) rfl jM90 jq90_4 (jc_ge hl2 (jb_rn rfl)) (fun c1 => ?_) (fun c1 => ?_)
    · have h1 := jo_p c1 h
      cases h1
      exact jw_vret jM90 jq90_37 (k σ s)
    · have h1 := jo_n c1 h
      refine jaL0 (p := 8) rfl jM90 jq90_7 ?_
      refine jw_getP (p := 11) (i := 3) (q := 82) rfl jM90 jq90_8 rfl (jo_81 s.1) je_8_3 (jp_81_3 s.1) ?_
      refine jiL2 (p := 12) rfl jM90 jq90_11 ?_
      refine jiL2 (p := 13) rfl jM90 jq90_12 ?_
      refine jiL1 (p := 14) rfl jM90 jq90_13 ?_
      refine jw_ic (p := 17) rfl jM90 jq90_14 (jc_ne hl2 hl1) (fun c2 => ?_) (fun c2 => ?_)
      · have h2 := jo_n c2 h1
        refine jw_iconst (p := 30) rfl jM90 jq90_29 ?_
        obtain ⟨c3, h3⟩ := jo_i h2
        refine jc_iast (p := 31) rfl jM90 jq90_30 (ja_82 s.1) c3.1 c3.2 s (by decide) (jb_rn rfl) ?_
        intro σ4 s4
        refine jiI2 (p := 34) rfl jM90 jq90_31 ?_
        refine jw_goto jM90 jq90_34 ?_
        obtain ⟨c5, h5⟩ := jo_i h3
        exact ih hl1 c5 h5 k σ4 s4
      · have h2 := jo_p (Decidable.byContradiction c2) h1
        refine jaL0 (p := 18) rfl jM90 jq90_17 ?_
        refine jw_getP (p := 21) (i := 2) (q := 57) rfl jM90 jq90_18 rfl (jo_81 s.1) je_8_2 (jp_81_2 s.1) ?_
        refine jw_getP (p := 24) (i := 1) (q := 59) rfl jM90 jq90_21 rfl (jo_57 s.1) je_6_1 (jp_57_1 s.1) ?_
        refine jiL2 (p := 25) rfl jM90 jq90_24 ?_
        obtain ⟨c6, h6⟩ := jo_i h2
        refine jc_iald (p := 26) rfl jM90 jq90_25 (ja_59 s.1) c6.1 c6.2 s (by decide) rfl ?_
        refine jw_goto jM90 jq90_26 ?_
        refine jc_iast (p := 31) rfl jM90 jq90_30 (ja_82 s.1) c6.1 c6.2 s (by decide) (s.r _ _) ?_
        intro σ7 s7
        refine jiI2 (p := 34) rfl jM90 jq90_31 ?_
        refine jw_goto jM90 jq90_34 ?_
        obtain ⟨c8, h8⟩ := jo_i h6
        exact ih hl1 c8 h8 k σ7 s7
def fc90 (K : jc_K) (l1 : Int) : Option (jc_K × Int) := fc90_2 jo_N K l1 0
theorem jd90 {d : Nat} {σ0 : ib_H} {Q : ib_O → Prop} {K : jc_K} {l1 : Int} (hl1 : jb_r l1) {r : (jc_K × Int)} (h : fc90 K l1 = some r) (k : ∀ σ, jc_S σ0 r.1 σ → Q (.inl none, σ)) : jc_W σ0 K d 90 0 [some (.ref 81), some (jb_v l1), none] [] Q := by
  intro σ s
  unfold fc90 at h
  refine jw_iconst (p := 1) rfl jM90 jq90_0 ?_
  refine jiS2 (p := 2) rfl jM90 jq90_1 ?_
  exact jd90_2 jo_N hl1 (jb_rn rfl) h k σ s
-- 91 PageLoom$Undoing.lookAtAllWithRecords need 0
def fc91_2 : Nat → jc_K → Int → Option (jc_K × Int)
  | 0, _, _ => none
  | m + 1, K, l1 => if 4 ≤ l1 then (some (K, 0)) else (if 0 ≤ l1 ∧ l1 < 4 then if jc_i K 59 l1 ≤ 0 then (if -2147483648 ≤ (l1 + 1) ∧ (l1 + 1) < 2147483648 then fc91_2 m (jc_ui K 82 l1 (-1)) (l1 + 1) else none) else (if -2147483648 ≤ (l1 + 1) ∧ (l1 + 1) < 2147483648 then fc91_2 m (jc_ui K 82 l1 (jc_i K 59 l1)) (l1 + 1) else none) else none)
theorem jd91_2 {d : Nat} {σ0 : ib_H} {Q : ib_O → Prop} : ∀ (m : Nat) {K : jc_K} {l1 : Int} (hl1 : jb_r l1) {r : (jc_K × Int)} (h : fc91_2 m K l1 = some r) (k : ∀ σ, jc_S σ0 r.1 σ → Q (.inl none, σ)), jc_W σ0 K d 91 2 [some (.ref 81), some (jb_v l1)] [] Q := by
  intro m
  induction m with
  | zero =>
    intro K l1 hl1 r h k
    cases h
  | succ m ih =>
    intro K l1 hl1 r h k σ s
    unfold fc91_2 at h
    refine jiL1 (p := 3) rfl jM91 jq91_2 ?_
    refine jw_iconst (p := 4) rfl jM91 jq91_3 ?_
    refine jw_ic (p := 7) rfl jM91 jq91_4 (jc_ge hl1 (jb_rn rfl)) (fun c1 => ?_) (fun c1 => ?_)
    · have h1 := jo_p c1 h
      cases h1
      exact jw_vret jM91 jq91_44 (k σ s)
    · have h1 := jo_n c1 h
      refine jaL0 (p := 8) rfl jM91 jq91_7 ?_
      refine jw_getP (p := 11) (i := 3) (q := 82) rfl jM91 jq91_8 rfl (jo_81 s.1) je_8_3 (jp_81_3 s.1) ?_
      refine jiL1 (p := 12) rfl jM91 jq91_11 ?_
      refine jaL0 (p := 13) rfl jM91 jq91_12 ?_
      refine jw_getP (p := 16) (i := 2) (q := 57) rfl jM91 jq91_13 rfl (jo_81 s.1) je_8_2 (jp_81_2 s.1) ?_
      refine jw_getP (p := 19) (i := 1) (q := 59) rfl jM91 jq91_16 rfl (jo_57 s.1) je_6_1 (jp_57_1 s.1) ?_
      refine jiL1 (p := 20) rfl jM91 jq91_19 ?_
      obtain ⟨c2, h2⟩ := jo_i h1
      refine jc_iald (p := 21) rfl jM91 jq91_20 (ja_59 s.1) c2.1 c2.2 s (by decide) rfl ?_
      refine jw_if (p := 24) rfl jM91 jq91_21 (jc_le (s.r _ _) jb_r0) (fun c3 => ?_) (fun c3 => ?_)
      · have h3 := jo_p c3 h2
        refine jw_iconst (p := 37) rfl jM91 jq91_36 ?_
        refine jc_iast (p := 38) rfl jM91 jq91_37 (ja_82 s.1) c2.1 c2.2 s (by decide) (jb_rn rfl) ?_
        intro σ4 s4
        refine jiI1 (p := 41) rfl jM91 jq91_38 ?_
        refine jw_goto jM91 jq91_41 ?_
        obtain ⟨c5, h5⟩ := jo_i h3
        exact ih c5 h5 k σ4 s4
      · have h3 := jo_n c3 h2
        refine jaL0 (p := 25) rfl jM91 jq91_24 ?_
        refine jw_getP (p := 28) (i := 2) (q := 57) rfl jM91 jq91_25 rfl (jo_81 s.1) je_8_2 (jp_81_2 s.1) ?_
        refine jw_getP (p := 31) (i := 1) (q := 59) rfl jM91 jq91_28 rfl (jo_57 s.1) je_6_1 (jp_57_1 s.1) ?_
        refine jiL1 (p := 32) rfl jM91 jq91_31 ?_
        refine jc_iald (p := 33) rfl jM91 jq91_32 (ja_59 s.1) c2.1 c2.2 s (by decide) rfl ?_
        refine jw_goto jM91 jq91_33 ?_
        refine jc_iast (p := 38) rfl jM91 jq91_37 (ja_82 s.1) c2.1 c2.2 s (by decide) (s.r _ _) ?_
        intro σ6 s6
        refine jiI1 (p := 41) rfl jM91 jq91_38 ?_
        refine jw_goto jM91 jq91_41 ?_
        obtain ⟨c7, h7⟩ := jo_i h3
        exact ih c7 h7 k σ6 s6
def fc91 (K : jc_K) : Option (jc_K × Int) := fc91_2 jo_N K 0
theorem jd91 {d : Nat} {σ0 : ib_H} {Q : ib_O → Prop} {K : jc_K} {r : (jc_K × Int)} (h : fc91 K  = some r) (k : ∀ σ, jc_S σ0 r.1 σ → Q (.inl none, σ)) : jc_W σ0 K d 91 0 [some (.ref 81), none] [] Q := by
  intro σ s
  unfold fc91 at h
  refine jw_iconst (p := 1) rfl jM91 jq91_0 ?_
  refine jiS1 (p := 2) rfl jM91 jq91_1 ?_
  exact jd91_2 jo_N (jb_rn rfl) h k σ s
-- 93 PageLoom$Undoing.nextTransaction need 0
def fc93_4 : Nat → jc_K → Int → Int → Int → Option (jc_K × Int)
  | 0, _, _, _, _ => none
  | m + 1, K, l1, l2, l3 => if 4 ≤ l3 then (some (K, l2)) else (if 0 ≤ l3 ∧ l3 < 4 then if jc_i K 82 l3 = (-1) then (if -2147483648 ≤ (l3 + 1) ∧ (l3 + 1) < 2147483648 then fc93_4 m K l1 l2 (l3 + 1) else none) else (if l1 < jc_i K 82 l3 then (if l2 = (-1) then (if -2147483648 ≤ (l3 + 1) ∧ (l3 + 1) < 2147483648 then fc93_4 m K l1 l3 (l3 + 1) else none) else (if 0 ≤ l2 ∧ l2 < 4 then if jc_i K 82 l3 ≤ jc_i K 82 l2 then (if -2147483648 ≤ (l3 + 1) ∧ (l3 + 1) < 2147483648 then fc93_4 m K l1 l2 (l3 + 1) else none) else (if -2147483648 ≤ (l3 + 1) ∧ (l3 + 1) < 2147483648 then fc93_4 m K l1 l3 (l3 + 1) else none) else none)) else (some (K, l3))) else none)
theorem jd93_4 {d : Nat} {σ0 : ib_H} {Q : ib_O → Prop} : ∀ (m : Nat) {K : jc_K} {l1 : Int} {l2 : Int} {l3 : Int} (hl1 : jb_r l1) (hl2 : jb_r l2) (hl3 : jb_r l3) {r : (jc_K × Int)} (h : fc93_4 m K l1 l2 l3 = some r) (k : ∀ σ, jc_S σ0 r.1 σ → jb_r r.2 → Q (.inl (some (jb_v r.2)), σ)), jc_W σ0 K d 93 4 [some (.ref 81), some (jb_v l1), some (jb_v l2), some (jb_v l3)] [] Q := by
  intro m
  induction m with
  | zero =>
    intro K l1 l2 l3 hl1 hl2 hl3 r h k
    cases h
  | succ m ih =>
    intro K l1 l2 l3 hl1 hl2 hl3 r h k σ s
    unfold fc93_4 at h
    refine jiL3 (p := 5) rfl jM93 jq93_4 ?_
    refine jw_iconst (p := 6) rfl jM93 jq93_5 ?_
    refine jw_ic (p := 9) rfl jM93 jq93_6 (jc_ge hl3 (jb_rn rfl)) (fun c1 => ?_) (fun c1 => ?_)
    · have h1 := jo_p c1 h
      refine jiL2 (p := 63) rfl jM93 jq93_62 ?_
      cases h1
      exact jw_iret jM93 jq93_63 (fun z => absurd z (by decide)) (k σ s hl2)
    · have h1 := jo_n c1 h
      refine jaL0 (p := 10) rfl jM93 jq93_9 ?_
      refine jw_getP (p := 13) (i := 3) (q := 82) rfl jM93 jq93_10 rfl (jo_81 s.1) je_8_3 (jp_81_3 s.1) ?_
      refine jiL3 (p := 14) rfl jM93 jq93_13 ?_
      obtain ⟨c2, h2⟩ := jo_i h1
      refine jc_iald (p := 15) rfl jM93 jq93_14 (ja_82 s.1) c2.1 c2.2 s (by decide) rfl ?_
      refine jw_iconst (p := 16) rfl jM93 jq93_15 ?_
      refine jw_ic (p := 19) rfl jM93 jq93_16 (jc_ne (s.r _ _) (jb_rn rfl)) (fun c3 => ?_) (fun c3 => ?_)
      · have h3 := jo_n c3 h2
        refine jaL0 (p := 23) rfl jM93 jq93_22 ?_
        refine jw_getP (p := 26) (i := 3) (q := 82) rfl jM93 jq93_23 rfl (jo_81 s.1) je_8_3 (jp_81_3 s.1) ?_
        refine jiL3 (p := 27) rfl jM93 jq93_26 ?_
        refine jc_iald (p := 28) rfl jM93 jq93_27 (ja_82 s.1) c2.1 c2.2 s (by decide) rfl ?_
        refine jiL1 (p := 29) rfl jM93 jq93_28 ?_
        refine jw_ic (p := 32) rfl jM93 jq93_29 (jc_gt (s.r _ _) hl1) (fun c4 => ?_) (fun c4 => ?_)
        · have h4 := jo_p c4 h3
          refine jiL2 (p := 35) rfl jM93 jq93_34 ?_
          refine jw_iconst (p := 36) rfl jM93 jq93_35 ?_
          refine jw_ic (p := 39) rfl jM93 jq93_36 (jc_eq hl2 (jb_rn rfl)) (fun c5 => ?_) (fun c5 => ?_)
          · have h5 := jo_p c5 h4
            refine jiL3 (p := 55) rfl jM93 jq93_54 ?_
            refine jiS2 (p := 56) rfl jM93 jq93_55 ?_
            refine jiI3 (p := 59) rfl jM93 jq93_56 ?_
            refine jw_goto jM93 jq93_59 ?_
            obtain ⟨c6, h6⟩ := jo_i h5
            exact ih hl1 hl3 c6 h6 k σ s
          · have h5 := jo_n c5 h4
            refine jaL0 (p := 40) rfl jM93 jq93_39 ?_
            refine jw_getP (p := 43) (i := 3) (q := 82) rfl jM93 jq93_40 rfl (jo_81 s.1) je_8_3 (jp_81_3 s.1) ?_
            refine jiL3 (p := 44) rfl jM93 jq93_43 ?_
            refine jc_iald (p := 45) rfl jM93 jq93_44 (ja_82 s.1) c2.1 c2.2 s (by decide) rfl ?_
            refine jaL0 (p := 46) rfl jM93 jq93_45 ?_
            refine jw_getP (p := 49) (i := 3) (q := 82) rfl jM93 jq93_46 rfl (jo_81 s.1) je_8_3 (jp_81_3 s.1) ?_
            refine jiL2 (p := 50) rfl jM93 jq93_49 ?_
            obtain ⟨c7, h7⟩ := jo_i h5
            refine jc_iald (p := 51) rfl jM93 jq93_50 (ja_82 s.1) c7.1 c7.2 s (by decide) rfl ?_
            refine jw_ic (p := 54) rfl jM93 jq93_51 (jc_le (s.r _ _) (s.r _ _)) (fun c8 => ?_) (fun c8 => ?_)
            · have h8 := jo_p c8 h7
              refine jiI3 (p := 59) rfl jM93 jq93_56 ?_
              refine jw_goto jM93 jq93_59 ?_
              obtain ⟨c9, h9⟩ := jo_i h8
              exact ih hl1 hl2 c9 h9 k σ s
            · have h8 := jo_n c8 h7
              refine jiL3 (p := 55) rfl jM93 jq93_54 ?_
              refine jiS2 (p := 56) rfl jM93 jq93_55 ?_
              refine jiI3 (p := 59) rfl jM93 jq93_56 ?_
              refine jw_goto jM93 jq93_59 ?_
              obtain ⟨c10, h10⟩ := jo_i h8
              exact ih hl1 hl3 c10 h10 k σ s
        · have h4 := jo_n c4 h3
          refine jiL3 (p := 33) rfl jM93 jq93_32 ?_
          cases h4
          exact jw_iret jM93 jq93_33 (fun z => absurd z (by decide)) (k σ s hl3)
      · have h3 := jo_p (Decidable.byContradiction c3) h2
        refine jw_goto jM93 jq93_19 ?_
        refine jiI3 (p := 59) rfl jM93 jq93_56 ?_
        refine jw_goto jM93 jq93_59 ?_
        obtain ⟨c11, h11⟩ := jo_i h3
        exact ih hl1 hl2 c11 h11 k σ s
def fc93 (K : jc_K) (l1 : Int) : Option (jc_K × Int) := fc93_4 jo_N K l1 (-1) 0
theorem jd93 {d : Nat} {σ0 : ib_H} {Q : ib_O → Prop} {K : jc_K} {l1 : Int} (hl1 : jb_r l1) {r : (jc_K × Int)} (h : fc93 K l1 = some r) (k : ∀ σ, jc_S σ0 r.1 σ → jb_r r.2 → Q (.inl (some (jb_v r.2)), σ)) : jc_W σ0 K d 93 0 [some (.ref 81), some (jb_v l1), none, none] [] Q := by
  intro σ s
  unfold fc93 at h
  refine jw_iconst (p := 1) rfl jM93 jq93_0 ?_
  refine jiS2 (p := 2) rfl jM93 jq93_1 ?_
  refine jw_iconst (p := 3) rfl jM93 jq93_2 ?_
  refine jiS3 (p := 4) rfl jM93 jq93_3 ?_
  exact jd93_4 jo_N hl1 (jb_rn rfl) (jb_rn rfl) h k σ s
-- 94 PageLoom$Undoing.recordAheadOf need 1
def fc94 (K : jc_K) (l1 : Nat) : Option (jc_K × Int) := if jc_rc K l1 then if jc_i K l1 1 = 1 then ((fc19 K (jc_i K l1 7)).bind fun x3 => if x3.2 = 0 then (if jc_rc (x3.1) l1 then some (x3.1, jc_i (x3.1) l1 6) else none) else (if jc_rc (x3.1) (x3.2) then some (x3.1, jc_i (x3.1) (x3.2) 6) else none)) else (some (K, jc_i K l1 6)) else none
theorem jd94 {d : Nat} {σ0 : ib_H} {Q : ib_O → Prop} {K : jc_K} {l1 : Nat} {r : (jc_K × Int)} (h : fc94 K l1 = some r) (k : ∀ σ, jc_S σ0 r.1 σ → jb_r r.2 → Q (.inl (some (jb_v r.2)), σ)) : jc_W σ0 K (d + 1) 94 0 [some (.ref 81), some (.ref l1), none] [] Q := by
  intro σ s
  unfold fc94 at h
  refine jaL1 (p := 1) rfl jM94 jq94_0 ?_
  obtain ⟨c1, h1⟩ := jo_i h
  refine jc_getI (p := 4) (i := 1) rfl jM94 jq94_1 rfl (s.rc c1).ob jn_3_1 s (jc_rcd c1) (by decide) rfl ?_
  refine jw_iconst (p := 5) rfl jM94 jq94_4 ?_
  refine jw_ic (p := 8) rfl jM94 jq94_5 (jc_ne (s.r _ _) (jb_rn rfl)) (fun c2 => ?_) (fun c2 => ?_)
  · have h2 := jo_n c2 h1
    refine jw_null (p := 23) rfl jM94 jq94_22 ?_
    refine jaS2 (p := 24) rfl jM94 jq94_23 ?_
    refine jaL2 (p := 25) rfl jM94 jq94_24 ?_
    refine jw_ifnonnull (p := 28) rfl jM94 jq94_25 (fun z => absurd rfl z) (fun _ => ?_)
    refine jaL1 (p := 29) rfl jM94 jq94_28 ?_
    refine jc_getI (p := 32) (i := 6) rfl jM94 jq94_29 rfl (s.rc c1).ob jn_3_6 s (jc_rcd c1) (by decide) rfl ?_
    refine jw_goto jM94 jq94_32 ?_
    cases h2
    exact jw_iret jM94 jq94_39 (fun z => absurd z (by decide)) (k σ s (s.r _ _))
  · have h2 := jo_p (Decidable.byContradiction c2) h1
    refine jaL0 (p := 9) rfl jM94 jq94_8 ?_
    refine jw_getP (p := 12) (i := 1) (q := 63) rfl jM94 jq94_9 rfl (jo_81 s.1) je_8_1 (jp_81_1 s.1) ?_
    refine jaL1 (p := 13) rfl jM94 jq94_12 ?_
    refine jc_getI (p := 16) (i := 7) rfl jM94 jq94_13 rfl (s.rc c1).ob jn_3_7 s (jc_rcd c1) (by decide) rfl ?_
    refine jw_callV [(jb_v (jc_i K l1 7))] jM94 jq94_16 rfl rfl (jo_63 s.1) rfl jM19 rfl rfl ?_
    obtain ⟨x3, b4, h4⟩ := jo_b h2
    refine jd19 (s.r _ _) b4 (fun σ3 s3 => ?_) σ s
    show jb_w (d + 1) 94 19 [some (.ref 81), some (.ref l1), none] [(.ref (x3.2))] σ3 Q
    refine jw_goto jM94 jq94_19 ?_
    refine jaS2 (p := 24) rfl jM94 jq94_23 ?_
    refine jaL2 (p := 25) rfl jM94 jq94_24 ?_
    refine jw_ifnonnull (p := 28) rfl jM94 jq94_25 (fun c5 => ?_) (fun c5 => ?_)
    · have h5 := jo_n c5 h4
      refine jaL2 (p := 36) rfl jM94 jq94_35 ?_
      obtain ⟨c6, h6⟩ := jo_i h5
      refine jc_getI (p := 39) (i := 6) rfl jM94 jq94_36 rfl (s3.rc c6).ob jn_3_6 s3 (jc_rcd c6) (by decide) rfl ?_
      cases h6
      exact jw_iret jM94 jq94_39 (fun z => absurd z (by decide)) (k σ3 s3 (s3.r _ _))
    · have h5 := jo_p c5 h4
      refine jaL1 (p := 29) rfl jM94 jq94_28 ?_
      obtain ⟨c7, h7⟩ := jo_i h5
      refine jc_getI (p := 32) (i := 6) rfl jM94 jq94_29 rfl (s3.rc c7).ob jn_3_6 s3 (jc_rcd c7) (by decide) rfl ?_
      refine jw_goto jM94 jq94_32 ?_
      cases h7
      exact jw_iret jM94 jq94_39 (fun z => absurd z (by decide)) (k σ3 s3 (s3.r _ _))
-- 95 PageLoom$Undoing.tellUndo need 2
def fc95 (K : jc_K) (l1 : Nat) : Option (jc_K × Int) := if jc_rc K l1 then (fc20 K 1 (jc_i K l1 2)).bind fun x2 => if x2.2 = 0 then (some (x2.1, 0)) else (if jc_rc (x2.1) l1 then if jc_rc (x2.1) (x2.2) then (fc70 (jc_ui (jc_ui (jc_ui (x2.1) (x2.2) 3 (jc_i (x2.1) l1 3)) (x2.2) 5 (jc_i (jc_ui (x2.1) (x2.2) 3 (jc_i (x2.1) l1 3)) l1 4)) (x2.2) 7 (jc_i (jc_ui (jc_ui (x2.1) (x2.2) 3 (jc_i (x2.1) l1 3)) (x2.2) 5 (jc_i (jc_ui (x2.1) (x2.2) 3 (jc_i (x2.1) l1 3)) l1 4)) l1 0)) ).bind fun x10 => if jc_rc (x10.1) (x2.2) then (fc26 (x10.1) (x2.2) (x10.2)).bind fun x13 => some (x13.1, 1) else none else none else none) else none
theorem jd95 {d : Nat} {σ0 : ib_H} {Q : ib_O → Prop} {K : jc_K} {l1 : Nat} {r : (jc_K × Int)} (h : fc95 K l1 = some r) (k : ∀ σ, jc_S σ0 r.1 σ → jb_r r.2 → Q (.inl (some (jb_v r.2)), σ)) : jc_W σ0 K (d + 2) 95 0 [some (.ref 81), some (.ref l1), none] [] Q := by
  intro σ s
  unfold fc95 at h
  refine jaL0 (p := 1) rfl jM95 jq95_0 ?_
  refine jw_getP (p := 4) (i := 1) (q := 63) rfl jM95 jq95_1 rfl (jo_81 s.1) je_8_1 (jp_81_1 s.1) ?_
  refine jw_iconst (p := 5) rfl jM95 jq95_4 ?_
  refine jaL1 (p := 6) rfl jM95 jq95_5 ?_
  obtain ⟨c1, h1⟩ := jo_i h
  refine jc_getI (p := 9) (i := 2) rfl jM95 jq95_6 rfl (s.rc c1).ob jn_3_2 s (jc_rcd c1) (by decide) rfl ?_
  refine jw_callV [(jb_v 1), (jb_v (jc_i K l1 2))] jM95 jq95_9 rfl rfl (jo_63 s.1) rfl jM20 rfl rfl ?_
  obtain ⟨x2, b3, h3⟩ := jo_b h1
  refine jd20 (jb_rn rfl) (s.r _ _) b3 (fun σ2 s2 => ?_) σ s
  show jb_w (d + 2) 95 12 [some (.ref 81), some (.ref l1), none] [(.ref (x2.2))] σ2 Q
  refine jaS2 (p := 13) rfl jM95 jq95_12 ?_
  refine jaL2 (p := 14) rfl jM95 jq95_13 ?_
  refine jw_ifnonnull (p := 17) rfl jM95 jq95_14 (fun c4 => ?_) (fun c4 => ?_)
  · have h4 := jo_n c4 h3
    refine jaL2 (p := 20) rfl jM95 jq95_19 ?_
    refine jaL1 (p := 21) rfl jM95 jq95_20 ?_
    obtain ⟨c5, h5⟩ := jo_i h4
    refine jc_getI (p := 24) (i := 3) rfl jM95 jq95_21 rfl (s2.rc c5).ob jn_3_3 s2 (jc_rcd c5) (by decide) rfl ?_
    obtain ⟨c6, h6⟩ := jo_i h5
    refine jc_putI (p := 27) (i := 3) rfl jM95 jq95_24 rfl (s2.rc c6).ob (Or.inl jz_3_3) s2 (jc_rcd c6) (by decide) (s2.r _ _) ?_
    intro σ7 s7
    refine jaL2 (p := 28) rfl jM95 jq95_27 ?_
    refine jaL1 (p := 29) rfl jM95 jq95_28 ?_
    refine jc_getI (p := 32) (i := 4) rfl jM95 jq95_29 rfl (s7.rc c5).ob jn_3_4 s7 (jc_rcd c5) (by decide) rfl ?_
    refine jc_putI (p := 35) (i := 5) rfl jM95 jq95_32 rfl (s7.rc c6).ob (Or.inl jz_3_5) s7 (jc_rcd c6) (by decide) (s7.r _ _) ?_
    intro σ8 s8
    refine jaL2 (p := 36) rfl jM95 jq95_35 ?_
    refine jaL1 (p := 37) rfl jM95 jq95_36 ?_
    refine jc_getI (p := 40) (i := 0) rfl jM95 jq95_37 rfl (s8.rc c5).ob jn_3_0 s8 (jc_rcd c5) (by decide) rfl ?_
    refine jc_putI (p := 43) (i := 7) rfl jM95 jq95_40 rfl (s8.rc c6).ob (Or.inl jz_3_7) s8 (jc_rcd c6) (by decide) (s8.r _ _) ?_
    intro σ9 s9
    refine jaL2 (p := 44) rfl jM95 jq95_43 ?_
    refine jaL0 (p := 45) rfl jM95 jq95_44 ?_
    refine jw_getP (p := 48) (i := 0) (q := 79) rfl jM95 jq95_45 rfl (jo_81 s9.1) je_8_0 (jp_81_0 s9.1) ?_
    refine jw_callV [] jM95 jq95_48 rfl rfl (jo_79 s9.1) rfl jM70 rfl rfl ?_
    obtain ⟨x10, b11, h11⟩ := jo_b h6
    refine jd70  b11 (fun σ10 s10 r10 => ?_) σ9 s9
    show jb_w (d + 2) 95 51 [some (.ref 81), some (.ref l1), some (.ref (x2.2))] [(jb_v (x10.2)), (.ref (x2.2))] σ10 Q
    obtain ⟨c12, h12⟩ := jo_i h11
    refine jw_callV [(jb_v (x10.2))] jM95 jq95_51 rfl rfl (s10.rc c12).ob rfl jM26 rfl rfl ?_
    obtain ⟨x13, b14, h14⟩ := jo_b h12
    refine jd26 r10 b14 (fun σ13 s13 => ?_) σ10 s10
    show jb_w (d + 2) 95 54 [some (.ref 81), some (.ref l1), some (.ref (x2.2))] [] σ13 Q
    refine jw_iconst (p := 55) rfl jM95 jq95_54 ?_
    cases h14
    exact jw_iret jM95 jq95_55 (fun _ => Or.inr rfl) (k σ13 s13 (jb_rn rfl))
  · have h4 := jo_p c4 h3
    refine jw_iconst (p := 18) rfl jM95 jq95_17 ?_
    cases h4
    exact jw_iret jM95 jq95_18 (fun _ => Or.inl rfl) (k σ2 s2 (jb_rn rfl))
-- 96 PageLoom$Undoing.end need 2
def fc96 (K : jc_K) (l1 : Int) : Option (jc_K × Int) := (fc20 K 3 l1).bind fun x1 => if x1.2 = 0 then (some (x1.1, 0)) else ((fc63 (x1.1) l1).bind fun x4 => some (x4.1, 1))
theorem jd96 {d : Nat} {σ0 : ib_H} {Q : ib_O → Prop} {K : jc_K} {l1 : Int} (hl1 : jb_r l1) {r : (jc_K × Int)} (h : fc96 K l1 = some r) (k : ∀ σ, jc_S σ0 r.1 σ → jb_r r.2 → Q (.inl (some (jb_v r.2)), σ)) : jc_W σ0 K (d + 2) 96 0 [some (.ref 81), some (jb_v l1)] [] Q := by
  intro σ s
  unfold fc96 at h
  refine jaL0 (p := 1) rfl jM96 jq96_0 ?_
  refine jw_getP (p := 4) (i := 1) (q := 63) rfl jM96 jq96_1 rfl (jo_81 s.1) je_8_1 (jp_81_1 s.1) ?_
  refine jw_iconst (p := 5) rfl jM96 jq96_4 ?_
  refine jiL1 (p := 6) rfl jM96 jq96_5 ?_
  refine jw_callV [(jb_v 3), (jb_v l1)] jM96 jq96_6 rfl rfl (jo_63 s.1) rfl jM20 rfl rfl ?_
  obtain ⟨x1, b2, h2⟩ := jo_b h
  refine jd20 (jb_rn rfl) hl1 b2 (fun σ1 s1 => ?_) σ s
  show jb_w (d + 2) 96 9 [some (.ref 81), some (jb_v l1)] [(.ref (x1.2))] σ1 Q
  refine jw_ifnonnull (p := 12) rfl jM96 jq96_9 (fun c3 => ?_) (fun c3 => ?_)
  · have h3 := jo_n c3 h2
    refine jaL0 (p := 15) rfl jM96 jq96_14 ?_
    refine jw_getP (p := 18) (i := 2) (q := 57) rfl jM96 jq96_15 rfl (jo_81 s1.1) je_8_2 (jp_81_2 s1.1) ?_
    refine jiL1 (p := 19) rfl jM96 jq96_18 ?_
    refine jw_callV [(jb_v l1)] jM96 jq96_19 rfl rfl (jo_57 s1.1) rfl jM63 rfl rfl ?_
    obtain ⟨x4, b5, h5⟩ := jo_b h3
    refine jd63 hl1 b5 (fun σ4 s4 => ?_) σ1 s1
    show jb_w (d + 2) 96 22 [some (.ref 81), some (jb_v l1)] [] σ4 Q
    refine jw_iconst (p := 23) rfl jM96 jq96_22 ?_
    cases h5
    exact jw_iret jM96 jq96_23 (fun _ => Or.inr rfl) (k σ4 s4 (jb_rn rfl))
  · have h3 := jo_p c3 h2
    refine jw_iconst (p := 13) rfl jM96 jq96_12 ?_
    cases h3
    exact jw_iret jM96 jq96_13 (fun _ => Or.inl rfl) (k σ1 s1 (jb_rn rfl))
