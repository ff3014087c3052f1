/-! the class as functions: written by wip/tools/genc.py (gc1.py) -/
-- 21 PageLoom$Log.cut need 0
def fc21 (K : jc_K) : Option (jc_K × Int) := if jc_i K 63 4 ≤ jc_i K 3 8 then (some (K, 0)) else (some (jc_ui K 63 4 (jc_i K 3 8), 0))
theorem jd21 {d : Nat} {σ0 : ib_H} {Q : ib_O → Prop} {K : jc_K} {r : (jc_K × Int)} (h : fc21 K  = some r) (k : ∀ σ, jc_S σ0 r.1 σ → Q (.inl none, σ)) : jc_W σ0 K d 21 0 [some (.ref 63)] [] Q := by
  intro σ s
  unfold fc21 at h
  refine jaL0 (p := 1) rfl jM21 jq21_0 ?_
  refine jc_getI (p := 4) (i := 4) rfl jM21 jq21_1 rfl (jo_63 s.1) jn_2_4 s (by decide) (by decide) rfl ?_
  refine jaL0 (p := 5) rfl jM21 jq21_4 ?_
  refine jw_getP (p := 8) (i := 0) (q := 3) rfl jM21 jq21_5 rfl (jo_63 s.1) je_2_0 (jp_63_0 s.1) ?_
  refine jc_getI (p := 11) (i := 8) rfl jM21 jq21_8 rfl (jo_3 s.1) jn_1_8 s (by decide) (by decide) rfl ?_
  refine jw_ic (p := 14) rfl jM21 jq21_11 (jc_le (s.r _ _) (s.r _ _)) (fun c1 => ?_) (fun c1 => ?_)
  · have h1 := jo_p c1 h
    cases h1
    exact jw_vret jM21 jq21_25 (k σ s)
  · have h1 := jo_n c1 h
    refine jaL0 (p := 15) rfl jM21 jq21_14 ?_
    refine jaL0 (p := 16) rfl jM21 jq21_15 ?_
    refine jw_getP (p := 19) (i := 0) (q := 3) rfl jM21 jq21_16 rfl (jo_63 s.1) je_2_0 (jp_63_0 s.1) ?_
    refine jc_getI (p := 22) (i := 8) rfl jM21 jq21_19 rfl (jo_3 s.1) jn_1_8 s (by decide) (by decide) rfl ?_
    refine jc_putI (p := 25) (i := 4) rfl jM21 jq21_22 rfl (jo_63 s.1) (Or.inl jz_2_4) s (by decide) (by decide) (s.r _ _) ?_
    intro σ2 s2
    cases h1
    exact jw_vret jM21 jq21_25 (k σ2 s2)
-- 23 PageLoom$Log.believeChain need 1
def fc23_11 : Nat → jc_K → Nat → Nat → Int → Option (jc_K × Int)
  | 0, _, _, _, _ => none
  | m + 1, K, l1, l2, l3 => if 1100 ≤ l3 then (some (K, 0)) else (if l2 = 0 then (some (K, 0)) else (if jc_rc K l2 then if jc_i K l2 3 < 0 then ((fc19 K (jc_i K l2 6)).bind fun x5 => if -2147483648 ≤ (l3 + 1) ∧ (l3 + 1) < 2147483648 then fc23_11 m (x5.1) l1 (x5.2) (l3 + 1) else none) else (if 32 ≤ jc_i K l2 3 then ((fc19 K (jc_i K l2 6)).bind fun x9 => if -2147483648 ≤ (l3 + 1) ∧ (l3 + 1) < 2147483648 then fc23_11 m (x9.1) l1 (x9.2) (l3 + 1) else none) else (if 0 ≤ (jc_i K l2 3) ∧ (jc_i K l2 3) < 32 then if jc_i K 65 (jc_i K l2 3) = (-2) then ((fc19 (jc_ui K 65 (jc_i K l2 3) (jc_i K l2 5)) (jc_i (jc_ui K 65 (jc_i K l2 3) (jc_i K l2 5)) l2 6)).bind fun x18 => if -2147483648 ≤ (l3 + 1) ∧ (l3 + 1) < 2147483648 then fc23_11 m (x18.1) l1 (x18.2) (l3 + 1) else none) else ((fc19 K (jc_i K l2 6)).bind fun x14 => if -2147483648 ≤ (l3 + 1) ∧ (l3 + 1) < 2147483648 then fc23_11 m (x14.1) l1 (x14.2) (l3 + 1) else none) else none)) else none))
theorem jd23_11 {d : Nat} {σ0 : ib_H} {Q : ib_O → Prop} : ∀ (m : Nat) {K : jc_K} {l1 : Nat} {l2 : Nat} {l3 : Int} {o4 : Option Value} (hl3 : jb_r l3) {r : (jc_K × Int)} (h : fc23_11 m K l1 l2 l3 = some r) (k : ∀ σ, jc_S σ0 r.1 σ → Q (.inl none, σ)), jc_W σ0 K (d + 1) 23 11 [some (.ref 63), some (.ref l1), some (.ref l2), some (jb_v l3), o4] [] Q := by
  intro m
  induction m with
  | zero =>
    intro K l1 l2 l3 o4 hl3 r h k
    cases h
  | succ m ih =>
    intro K l1 l2 l3 o4 hl3 r h k σ s
    unfold fc23_11 at h
    refine jiL3 (p := 12) rfl jM23 jq23_11 ?_
    refine jw_sipush (p := 15) rfl jM23 jq23_12 (by decide) ?_
    refine jw_ic (p := 18) rfl jM23 jq23_15 (jc_ge hl3 (jb_rn rfl)) (fun c1 => ?_) (fun c1 => ?_)
    · have h1 := jo_p c1 h
      cases h1
      exact jw_vret jM23 jq23_78 (k σ s)
    · have h1 := jo_n c1 h
      refine jaL2 (p := 19) rfl jM23 jq23_18 ?_
      refine jw_ifnull (p := 22) rfl jM23 jq23_19 (fun c2 => ?_) (fun c2 => ?_)
      · have h2 := jo_p c2 h1
        cases h2
        exact jw_vret jM23 jq23_78 (k σ s)
      · have h2 := jo_n c2 h1
        refine jaL2 (p := 23) rfl jM23 jq23_22 ?_
        obtain ⟨c3, h3⟩ := jo_i h2
        refine jc_getI (p := 26) (i := 3) rfl jM23 jq23_23 rfl (s.rc c3).ob jn_3_3 s (jc_rcd c3) (by decide) rfl ?_
        refine jiS4 (p := 28) rfl jM23 jq23_26 ?_
        refine jiL4 (p := 30) rfl jM23 jq23_28 ?_
        refine jw_if (p := 33) rfl jM23 jq23_30 (jc_lt (s.r _ _) jb_r0) (fun c4 => ?_) (fun c4 => ?_)
        · have h4 := jo_p c4 h3
          refine jaL0 (p := 64) rfl jM23 jq23_63 ?_
          refine jaL2 (p := 65) rfl jM23 jq23_64 ?_
          refine jc_getI (p := 68) (i := 6) rfl jM23 jq23_65 rfl (s.rc c3).ob jn_3_6 s (jc_rcd c3) (by decide) rfl ?_
          refine jw_callV [(jb_v (jc_i K l2 6))] jM23 jq23_68 rfl rfl (jo_63 s.1) rfl jM19 rfl rfl ?_
          obtain ⟨x5, b6, h6⟩ := jo_b h4
          refine jd19 (s.r _ _) b6 (fun σ5 s5 => ?_) σ s
          show jb_w (d + 1) 23 71 [some (.ref 63), some (.ref l1), some (.ref l2), some (jb_v l3), some (jb_v (jc_i K l2 3))] [(.ref (x5.2))] σ5 Q
          refine jaS2 (p := 72) rfl jM23 jq23_71 ?_
          refine jiI3 (p := 75) rfl jM23 jq23_72 ?_
          refine jw_goto jM23 jq23_75 ?_
          obtain ⟨c7, h7⟩ := jo_i h6
          exact ih c7 h7 k σ5 s5
        · have h4 := jo_n c4 h3
          refine jiL4 (p := 35) rfl jM23 jq23_33 ?_
          refine jw_bipush (p := 37) rfl jM23 jq23_35 (by decide) ?_
          refine jw_ic (p := 40) rfl jM23 jq23_37 (jc_ge (s.r _ _) (jb_rn rfl)) (fun c8 => ?_) (fun c8 => ?_)
          · have h8 := jo_p c8 h4
            refine jaL0 (p := 64) rfl jM23 jq23_63 ?_
            refine jaL2 (p := 65) rfl jM23 jq23_64 ?_
            refine jc_getI (p := 68) (i := 6) rfl jM23 jq23_65 rfl (s.rc c3).ob jn_3_6 s (jc_rcd c3) (by decide) rfl ?_
            refine jw_callV [(jb_v (jc_i K l2 6))] jM23 jq23_68 rfl rfl (jo_63 s.1) rfl jM19 rfl rfl ?_
            obtain ⟨x9, b10, h10⟩ := jo_b h8
            refine jd19 (s.r _ _) b10 (fun σ9 s9 => ?_) σ s
            show jb_w (d + 1) 23 71 [some (.ref 63), some (.ref l1), some (.ref l2), some (jb_v l3), some (jb_v (jc_i K l2 3))] [(.ref (x9.2))] σ9 Q
            refine jaS2 (p := 72) rfl jM23 jq23_71 ?_
            refine jiI3 (p := 75) rfl jM23 jq23_72 ?_
            refine jw_goto jM23 jq23_75 ?_
            obtain ⟨c11, h11⟩ := jo_i h10
            exact ih c11 h11 k σ9 s9
          · have h8 := jo_n c8 h4
            refine jaL0 (p := 41) rfl jM23 jq23_40 ?_
            refine jw_getP (p := 44) (i := 3) (q := 65) rfl jM23 jq23_41 rfl (jo_63 s.1) je_2_3 (jp_63_3 s.1) ?_
            refine jiL4 (p := 46) rfl jM23 jq23_44 ?_
            obtain ⟨c12, h12⟩ := jo_i h8
            refine jc_iald (p := 47) rfl jM23 jq23_46 (ja_65 s.1) c12.1 c12.2 s (by decide) rfl ?_
            refine jw_bipush (p := 49) rfl jM23 jq23_47 (by decide) ?_
            refine jw_ic (p := 52) rfl jM23 jq23_49 (jc_ne (s.r _ _) (jb_rn rfl)) (fun c13 => ?_) (fun c13 => ?_)
            · have h13 := jo_n c13 h12
              refine jaL0 (p := 64) rfl jM23 jq23_63 ?_
              refine jaL2 (p := 65) rfl jM23 jq23_64 ?_
              refine jc_getI (p := 68) (i := 6) rfl jM23 jq23_65 rfl (s.rc c3).ob jn_3_6 s (jc_rcd c3) (by decide) rfl ?_
              refine jw_callV [(jb_v (jc_i K l2 6))] jM23 jq23_68 rfl rfl (jo_63 s.1) rfl jM19 rfl rfl ?_
              obtain ⟨x14, b15, h15⟩ := jo_b h13
              refine jd19 (s.r _ _) b15 (fun σ14 s14 => ?_) σ s
              show jb_w (d + 1) 23 71 [some (.ref 63), some (.ref l1), some (.ref l2), some (jb_v l3), some (jb_v (jc_i K l2 3))] [(.ref (x14.2))] σ14 Q
              refine jaS2 (p := 72) rfl jM23 jq23_71 ?_
              refine jiI3 (p := 75) rfl jM23 jq23_72 ?_
              refine jw_goto jM23 jq23_75 ?_
              obtain ⟨c16, h16⟩ := jo_i h15
              exact ih c16 h16 k σ14 s14
            · have h13 := jo_p (Decidable.byContradiction c13) h12
              refine jaL0 (p := 53) rfl jM23 jq23_52 ?_
              refine jw_getP (p := 56) (i := 3) (q := 65) rfl jM23 jq23_53 rfl (jo_63 s.1) je_2_3 (jp_63_3 s.1) ?_
              refine jiL4 (p := 58) rfl jM23 jq23_56 ?_
              refine jaL2 (p := 59) rfl jM23 jq23_58 ?_
              refine jc_getI (p := 62) (i := 5) rfl jM23 jq23_59 rfl (s.rc c3).ob jn_3_5 s (jc_rcd c3) (by decide) rfl ?_
              refine jc_iast (p := 63) rfl jM23 jq23_62 (ja_65 s.1) c12.1 c12.2 s (by decide) (s.r _ _) ?_
              intro σ17 s17
              refine jaL0 (p := 64) rfl jM23 jq23_63 ?_
              refine jaL2 (p := 65) rfl jM23 jq23_64 ?_
              refine jc_getI (p := 68) (i := 6) rfl jM23 jq23_65 rfl (s17.rc c3).ob jn_3_6 s17 (jc_rcd c3) (by decide) rfl ?_
              refine jw_callV [(jb_v (jc_i (jc_ui K 65 (jc_i K l2 3) (jc_i K l2 5)) l2 6))] jM23 jq23_68 rfl rfl (jo_63 s17.1) rfl jM19 rfl rfl ?_
              obtain ⟨x18, b19, h19⟩ := jo_b h13
              refine jd19 (s17.r _ _) b19 (fun σ18 s18 => ?_) σ17 s17
              show jb_w (d + 1) 23 71 [some (.ref 63), some (.ref l1), some (.ref l2), some (jb_v l3), some (jb_v (jc_i K l2 3))] [(.ref (x18.2))] σ18 Q
              refine jaS2 (p := 72) rfl jM23 jq23_71 ?_
              refine jiI3 (p := 75) rfl jM23 jq23_72 ?_
              refine jw_goto jM23 jq23_75 ?_
              obtain ⟨c20, h20⟩ := jo_i h19
              exact ih c20 h20 k σ18 s18
def fc23 (K : jc_K) (l1 : Nat) : Option (jc_K × Int) := if jc_rc K l1 then (fc19 K (jc_i K l1 6)).bind fun x2 => fc23_11 jo_N (x2.1) l1 (x2.2) 0 else none
theorem jd23 {d : Nat} {σ0 : ib_H} {Q : ib_O → Prop} {K : jc_K} {l1 : Nat} {r : (jc_K × Int)} (h : fc23 K l1 = some r) (k : ∀ σ, jc_S σ0 r.1 σ → Q (.inl none, σ)) : jc_W σ0 K (d + 1) 23 0 [some (.ref 63), some (.ref l1), none, none, none] [] Q := by
  intro σ s
  unfold fc23 at h
  refine jaL0 (p := 1) rfl jM23 jq23_0 ?_
  refine jaL1 (p := 2) rfl jM23 jq23_1 ?_
  obtain ⟨c1, h1⟩ := jo_i h
  refine jc_getI (p := 5) (i := 6) rfl jM23 jq23_2 rfl (s.rc c1).ob jn_3_6 s (jc_rcd c1) (by decide) rfl ?_
  refine jw_callV [(jb_v (jc_i K l1 6))] jM23 jq23_5 rfl rfl (jo_63 s.1) rfl jM19 rfl rfl ?_
  obtain ⟨x2, b3, h3⟩ := jo_b h1
  refine jd19 (s.r _ _) b3 (fun σ2 s2 => ?_) σ s
  show jb_w (d + 1) 23 8 [some (.ref 63), some (.ref l1), none, none, none] [(.ref (x2.2))] σ2 Q
  refine jaS2 (p := 9) rfl jM23 jq23_8 ?_
  refine jw_iconst (p := 10) rfl jM23 jq23_9 ?_
  refine jiS3 (p := 11) rfl jM23 jq23_10 ?_
  exact jd23_11 jo_N (jb_rn rfl) h3 k σ2 s2
-- 22 PageLoom$Log.committedValues need 2
def fc22_66 : Nat → jc_K → Int → Option (jc_K × Int)
  | 0, _, _ => none
  | m + 1, K, l1 => if 32 ≤ l1 then (some (K, 0)) else (if 0 ≤ l1 ∧ l1 < 32 then if jc_i K 65 l1 = (-2) then (if -2147483648 ≤ (l1 + 1) ∧ (l1 + 1) < 2147483648 then fc22_66 m (jc_ui K 65 l1 (-1)) (l1 + 1) else none) else (if -2147483648 ≤ (l1 + 1) ∧ (l1 + 1) < 2147483648 then fc22_66 m K (l1 + 1) else none) else none)
theorem jd22_66 {d : Nat} {σ0 : ib_H} {Q : ib_O → Prop} : ∀ (m : Nat) {K : jc_K} {l1 : Int} {o2 : Option Value} (hl1 : jb_r l1) {r : (jc_K × Int)} (h : fc22_66 m K l1 = some r) (k : ∀ σ, jc_S σ0 r.1 σ → Q (.inl (some (.ref 65)), σ)), jc_W σ0 K (d + 2) 22 66 [some (.ref 63), some (jb_v l1), o2] [] Q := by
  intro m
  induction m with
  | zero =>
    intro K l1 o2 hl1 r h k
    cases h
  | succ m ih =>
    intro K l1 o2 hl1 r h k σ s
    unfold fc22_66 at h
    refine jiL1 (p := 67) rfl jM22 jq22_66 ?_
    refine jw_bipush (p := 69) rfl jM22 jq22_67 (by decide) ?_
    refine jw_ic (p := 72) rfl jM22 jq22_69 (jc_ge hl1 (jb_rn rfl)) (fun c1 => ?_) (fun c1 => ?_)
    · have h1 := jo_p c1 h
      refine jaL0 (p := 97) rfl jM22 jq22_96 ?_
      refine jw_getP (p := 100) (i := 3) (q := 65) rfl jM22 jq22_97 rfl (jo_63 s.1) je_2_3 (jp_63_3 s.1) ?_
      cases h1
      exact jw_aret jM22 jq22_100 (k σ s)
    · have h1 := jo_n c1 h
      refine jaL0 (p := 73) rfl jM22 jq22_72 ?_
      refine jw_getP (p := 76) (i := 3) (q := 65) rfl jM22 jq22_73 rfl (jo_63 s.1) je_2_3 (jp_63_3 s.1) ?_
      refine jiL1 (p := 77) rfl jM22 jq22_76 ?_
      obtain ⟨c2, h2⟩ := jo_i h1
      refine jc_iald (p := 78) rfl jM22 jq22_77 (ja_65 s.1) c2.1 c2.2 s (by decide) rfl ?_
      refine jw_bipush (p := 80) rfl jM22 jq22_78 (by decide) ?_
      refine jw_ic (p := 83) rfl jM22 jq22_80 (jc_ne (s.r _ _) (jb_rn rfl)) (fun c3 => ?_) (fun c3 => ?_)
      · have h3 := jo_n c3 h2
        refine jiI1 (p := 93) rfl jM22 jq22_90 ?_
        refine jw_goto jM22 jq22_93 ?_
        obtain ⟨c4, h4⟩ := jo_i h3
        exact ih c4 h4 k σ s
      · have h3 := jo_p (Decidable.byContradiction c3) h2
        refine jaL0 (p := 84) rfl jM22 jq22_83 ?_
        refine jw_getP (p := 87) (i := 3) (q := 65) rfl jM22 jq22_84 rfl (jo_63 s.1) je_2_3 (jp_63_3 s.1) ?_
        refine jiL1 (p := 88) rfl jM22 jq22_87 ?_
        refine jw_iconst (p := 89) rfl jM22 jq22_88 ?_
        refine jc_iast (p := 90) rfl jM22 jq22_89 (ja_65 s.1) c2.1 c2.2 s (by decide) (jb_rn rfl) ?_
        intro σ5 s5
        refine jiI1 (p := 93) rfl jM22 jq22_90 ?_
        refine jw_goto jM22 jq22_93 ?_
        obtain ⟨c6, h6⟩ := jo_i h3
        exact ih c6 h6 k σ5 s5
def fc22_30 : Nat → jc_K → Int → Option (jc_K × Int)
  | 0, _, _ => none
  | m + 1, K, l1 => if l1 < 1 then (fc22_66 jo_N K 0) else ((fc19 K l1).bind fun x2 => if x2.2 = 0 then (if -2147483648 ≤ (l1 + (-1)) ∧ (l1 + (-1)) < 2147483648 then fc22_30 m (x2.1) (l1 + (-1)) else none) else (if jc_rc (x2.1) (x2.2) then if jc_i (x2.1) (x2.2) 1 = 2 then ((fc23 (x2.1) (x2.2)).bind fun x9 => if -2147483648 ≤ (l1 + (-1)) ∧ (l1 + (-1)) < 2147483648 then fc22_30 m (x9.1) (l1 + (-1)) else none) else (if -2147483648 ≤ (l1 + (-1)) ∧ (l1 + (-1)) < 2147483648 then fc22_30 m (x2.1) (l1 + (-1)) else none) else none))
theorem jd22_30 {d : Nat} {σ0 : ib_H} {Q : ib_O → Prop} : ∀ (m : Nat) {K : jc_K} {l1 : Int} {o2 : Option Value} (hl1 : jb_r l1) {r : (jc_K × Int)} (h : fc22_30 m K l1 = some r) (k : ∀ σ, jc_S σ0 r.1 σ → Q (.inl (some (.ref 65)), σ)), jc_W σ0 K (d + 2) 22 30 [some (.ref 63), some (jb_v l1), o2] [] Q := by
  intro m
  induction m with
  | zero =>
    intro K l1 o2 hl1 r h k
    cases h
  | succ m ih =>
    intro K l1 o2 hl1 r h k σ s
    unfold fc22_30 at h
    refine jiL1 (p := 31) rfl jM22 jq22_30 ?_
    refine jw_iconst (p := 32) rfl jM22 jq22_31 ?_
    refine jw_ic (p := 35) rfl jM22 jq22_32 (jc_lt hl1 (jb_rn rfl)) (fun c1 => ?_) (fun c1 => ?_)
    · have h1 := jo_p c1 h
      refine jw_iconst (p := 65) rfl jM22 jq22_64 ?_
      refine jiS1 (p := 66) rfl jM22 jq22_65 ?_
      exact jd22_66 jo_N (jb_rn rfl) h1 k σ s
    · have h1 := jo_n c1 h
      refine jaL0 (p := 36) rfl jM22 jq22_35 ?_
      refine jiL1 (p := 37) rfl jM22 jq22_36 ?_
      refine jw_callV [(jb_v l1)] jM22 jq22_37 rfl rfl (jo_63 s.1) rfl jM19 rfl rfl ?_
      obtain ⟨x2, b3, h3⟩ := jo_b h1
      refine jd19 hl1 b3 (fun σ2 s2 => ?_) σ s
      show jb_w (d + 2) 22 40 [some (.ref 63), some (jb_v l1), o2] [(.ref (x2.2))] σ2 Q
      refine jaS2 (p := 41) rfl jM22 jq22_40 ?_
      refine jaL2 (p := 42) rfl jM22 jq22_41 ?_
      refine jw_ifnull (p := 45) rfl jM22 jq22_42 (fun c4 => ?_) (fun c4 => ?_)
      · have h4 := jo_p c4 h3
        refine jiI1 (p := 61) rfl jM22 jq22_58 ?_
        refine jw_goto jM22 jq22_61 ?_
        obtain ⟨c5, h5⟩ := jo_i h4
        exact ih c5 h5 k σ2 s2
      · have h4 := jo_n c4 h3
        refine jaL2 (p := 46) rfl jM22 jq22_45 ?_
        obtain ⟨c6, h6⟩ := jo_i h4
        refine jc_getI (p := 49) (i := 1) rfl jM22 jq22_46 rfl (s2.rc c6).ob jn_3_1 s2 (jc_rcd c6) (by decide) rfl ?_
        refine jw_iconst (p := 50) rfl jM22 jq22_49 ?_
        refine jw_ic (p := 53) rfl jM22 jq22_50 (jc_ne (s2.r _ _) (jb_rn rfl)) (fun c7 => ?_) (fun c7 => ?_)
        · have h7 := jo_n c7 h6
          refine jiI1 (p := 61) rfl jM22 jq22_58 ?_
          refine jw_goto jM22 jq22_61 ?_
          obtain ⟨c8, h8⟩ := jo_i h7
          exact ih c8 h8 k σ2 s2
        · have h7 := jo_p (Decidable.byContradiction c7) h6
          refine jaL0 (p := 54) rfl jM22 jq22_53 ?_
          refine jaL2 (p := 55) rfl jM22 jq22_54 ?_
          refine jw_callV [(.ref (x2.2))] jM22 jq22_55 rfl rfl (jo_63 s2.1) rfl jM23 rfl rfl ?_
          obtain ⟨x9, b10, h10⟩ := jo_b h7
          refine jd23  b10 (fun σ9 s9 => ?_) σ2 s2
          show jb_w (d + 2) 22 58 [some (.ref 63), some (jb_v l1), some (.ref (x2.2))] [] σ9 Q
          refine jiI1 (p := 61) rfl jM22 jq22_58 ?_
          refine jw_goto jM22 jq22_61 ?_
          obtain ⟨c11, h11⟩ := jo_i h10
          exact ih c11 h11 k σ9 s9
def fc22_2 : Nat → jc_K → Int → Option (jc_K × Int)
  | 0, _, _ => none
  | m + 1, K, l1 => if 32 ≤ l1 then (fc22_30 jo_N K (jc_i K 3 8)) else (if 0 ≤ l1 ∧ l1 < 32 then if -2147483648 ≤ (l1 + 1) ∧ (l1 + 1) < 2147483648 then fc22_2 m (jc_ui K 65 l1 (-2)) (l1 + 1) else none else none)
theorem jd22_2 {d : Nat} {σ0 : ib_H} {Q : ib_O → Prop} : ∀ (m : Nat) {K : jc_K} {l1 : Int} (hl1 : jb_r l1) {r : (jc_K × Int)} (h : fc22_2 m K l1 = some r) (k : ∀ σ, jc_S σ0 r.1 σ → Q (.inl (some (.ref 65)), σ)), jc_W σ0 K (d + 2) 22 2 [some (.ref 63), some (jb_v l1), none] [] Q := by
  intro m
  induction m with
  | zero =>
    intro K l1 hl1 r h k
    cases h
  | succ m ih =>
    intro K l1 hl1 r h k σ s
    unfold fc22_2 at h
    refine jiL1 (p := 3) rfl jM22 jq22_2 ?_
    refine jw_bipush (p := 5) rfl jM22 jq22_3 (by decide) ?_
    refine jw_ic (p := 8) rfl jM22 jq22_5 (jc_ge hl1 (jb_rn rfl)) (fun c1 => ?_) (fun c1 => ?_)
    · have h1 := jo_p c1 h
      refine jaL0 (p := 23) rfl jM22 jq22_22 ?_
      refine jw_getP (p := 26) (i := 0) (q := 3) rfl jM22 jq22_23 rfl (jo_63 s.1) je_2_0 (jp_63_0 s.1) ?_
      refine jc_getI (p := 29) (i := 8) rfl jM22 jq22_26 rfl (jo_3 s.1) jn_1_8 s (by decide) (by decide) rfl ?_
      refine jiS1 (p := 30) rfl jM22 jq22_29 ?_
      exact jd22_30 jo_N (s.r _ _) h1 k σ s
    · have h1 := jo_n c1 h
      refine jaL0 (p := 9) rfl jM22 jq22_8 ?_
      refine jw_getP (p := 12) (i := 3) (q := 65) rfl jM22 jq22_9 rfl (jo_63 s.1) je_2_3 (jp_63_3 s.1) ?_
      refine jiL1 (p := 13) rfl jM22 jq22_12 ?_
      refine jw_bipush (p := 15) rfl jM22 jq22_13 (by decide) ?_
      obtain ⟨c2, h2⟩ := jo_i h1
      refine jc_iast (p := 16) rfl jM22 jq22_15 (ja_65 s.1) c2.1 c2.2 s (by decide) (jb_rn rfl) ?_
      intro σ3 s3
      refine jiI1 (p := 19) rfl jM22 jq22_16 ?_
      refine jw_goto jM22 jq22_19 ?_
      obtain ⟨c4, h4⟩ := jo_i h2
      exact ih c4 h4 k σ3 s3
def fc22 (K : jc_K) : Option (jc_K × Int) := fc22_2 jo_N K 0
theorem jd22 {d : Nat} {σ0 : ib_H} {Q : ib_O → Prop} {K : jc_K} {r : (jc_K × Int)} (h : fc22 K  = some r) (k : ∀ σ, jc_S σ0 r.1 σ → Q (.inl (some (.ref 65)), σ)) : jc_W σ0 K (d + 2) 22 0 [some (.ref 63), none, none] [] Q := by
  intro σ s
  unfold fc22 at h
  refine jw_iconst (p := 1) rfl jM22 jq22_0 ?_
  refine jiS1 (p := 2) rfl jM22 jq22_1 ?_
  exact jd22_2 jo_N (jb_rn rfl) h k σ s
-- 26 PageLoom$LogRecord.tellLeaf need 0
def fc26 (K : jc_K) (l0 : Nat) (l1 : Int) : Option (jc_K × Int) := if jc_rc K l0 then some (jc_ui (jc_ui K (l0 + 1) 0 l1) l0 8 1, 0) else none
theorem jd26 {d : Nat} {σ0 : ib_H} {Q : ib_O → Prop} {K : jc_K} {l0 : Nat} {l1 : Int} (hl1 : jb_r l1) {r : (jc_K × Int)} (h : fc26 K l0 l1 = some r) (k : ∀ σ, jc_S σ0 r.1 σ → Q (.inl none, σ)) : jc_W σ0 K d 26 0 [some (.ref l0), some (jb_v l1)] [] Q := by
  intro σ s
  unfold fc26 at h
  refine jaL0 (p := 1) rfl jM26 jq26_0 ?_
  obtain ⟨c1, h1⟩ := jo_i h
  refine jw_getP (p := 4) (i := 9) rfl jM26 jq26_1 rfl (s.rc c1).ob je_3_9 (s.rc c1).pp ?_
  refine jw_iconst (p := 5) rfl jM26 jq26_4 ?_
  refine jiL1 (p := 6) rfl jM26 jq26_5 ?_
  refine jc_iast (p := 7) rfl jM26 jq26_6 (s.rc c1).ap (by decide) (by decide) s (jc_rcd1 c1) hl1 ?_
  intro σ2 s2
  refine jaL0 (p := 8) rfl jM26 jq26_7 ?_
  refine jw_iconst (p := 9) rfl jM26 jq26_8 ?_
  refine jc_putI (p := 12) (i := 8) rfl jM26 jq26_9 rfl (s2.rc c1).ob (Or.inl jz_3_8) s2 (jc_rcd c1) (by decide) (jb_rn rfl) ?_
  intro σ3 s3
  cases h1
  exact jw_vret jM26 jq26_12 (k σ3 s3)
-- 34 PageLoom$Page.blank need 0
def fc34 (K : jc_K) (l0 : Nat) (l1 : Int) : Option (jc_K × Int) := if jc_pg K l0 then some (jc_ui (jc_ui K l0 0 l1) l0 2 0, 0) else none
theorem jd34 {d : Nat} {σ0 : ib_H} {Q : ib_O → Prop} {K : jc_K} {l0 : Nat} {l1 : Int} (hl1 : jb_r l1) {r : (jc_K × Int)} (h : fc34 K l0 l1 = some r) (k : ∀ σ, jc_S σ0 r.1 σ → Q (.inl none, σ)) : jc_W σ0 K d 34 0 [some (.ref l0), some (jb_v l1)] [] Q := by
  intro σ s
  unfold fc34 at h
  refine jaL0 (p := 1) rfl jM34 jq34_0 ?_
  refine jiL1 (p := 2) rfl jM34 jq34_1 ?_
  obtain ⟨c1, h1⟩ := jo_i h
  refine jc_putI (p := 5) (i := 0) rfl jM34 jq34_2 rfl (s.pg c1).ob (Or.inl jz_4_0) s (jc_pgd c1) (by decide) hl1 ?_
  intro σ2 s2
  refine jaL0 (p := 6) rfl jM34 jq34_5 ?_
  refine jw_iconst (p := 7) rfl jM34 jq34_6 ?_
  refine jc_putI (p := 10) (i := 2) rfl jM34 jq34_7 rfl (s2.pg c1).ob (Or.inl jz_4_2) s2 (jc_pgd c1) (by decide) (jb_rn rfl) ?_
  intro σ3 s3
  cases h1
  exact jw_vret jM34 jq34_10 (k σ3 s3)
-- 27 PageLoom$LogRecord.tellImage need 1
def fc27_43 : Nat → jc_K → Nat → Int → Int → Nat → Option (jc_K × Nat)
  | 0, _, _, _, _, _ => none
  | m + 1, K, l0, l1, l2, l3 => if l2 ≤ 0 then (if jc_rc K l0 then if 0 ≤ l2 ∧ l2 < 3 then if l3 = 0 ∨ jc_pg K l3 then if jc_rc (jc_up (jc_ui K (l0 + 1) l2 l1) (l0 + 2) l2 l3) l0 then if 3 ≤ jc_i K l0 8 then (if jc_pg (jc_up (jc_ui K (l0 + 1) l2 l1) (l0 + 2) l2 l3) l3 then (fc34 (jc_up (jc_ui K (l0 + 1) l2 l1) (l0 + 2) l2 l3) l3 0).bind fun x10 => some (x10.1, l3) else none) else (if -2147483648 ≤ ((jc_i K l0 8) + 1) ∧ ((jc_i K l0 8) + 1) < 2147483648 then if jc_pg (jc_up (jc_ui K (l0 + 1) l2 l1) (l0 + 2) l2 l3) l3 then (fc34 (jc_ui (jc_up (jc_ui K (l0 + 1) l2 l1) (l0 + 2) l2 l3) l0 8 ((jc_i K l0 8) + 1)) l3 0).bind fun x15 => some (x15.1, l3) else none else none) else none else none else none else none) else (if jc_rc K l0 then if 0 ≤ (l2 - 1) ∧ (l2 - 1) < 3 then if jc_i K (l0 + 1) (l2 - 1) ≤ l1 then (if 0 ≤ l2 ∧ l2 < 3 then if l3 = 0 ∨ jc_pg K l3 then if jc_rc (jc_up (jc_ui K (l0 + 1) l2 l1) (l0 + 2) l2 l3) l0 then if 3 ≤ jc_i K l0 8 then (if jc_pg (jc_up (jc_ui K (l0 + 1) l2 l1) (l0 + 2) l2 l3) l3 then (fc34 (jc_up (jc_ui K (l0 + 1) l2 l1) (l0 + 2) l2 l3) l3 0).bind fun x27 => some (x27.1, l3) else none) else (if -2147483648 ≤ ((jc_i K l0 8) + 1) ∧ ((jc_i K l0 8) + 1) < 2147483648 then if jc_pg (jc_up (jc_ui K (l0 + 1) l2 l1) (l0 + 2) l2 l3) l3 then (fc34 (jc_ui (jc_up (jc_ui K (l0 + 1) l2 l1) (l0 + 2) l2 l3) l0 8 ((jc_i K l0 8) + 1)) l3 0).bind fun x32 => some (x32.1, l3) else none else none) else none else none else none) else (if 0 ≤ l2 ∧ l2 < 3 then jo_ln (jc_p K (l0 + 2) (l2 - 1)) fun q36 => if q36 = 0 ∨ jc_pg K q36 then if -2147483648 ≤ (l2 + (-1)) ∧ (l2 + (-1)) < 2147483648 then fc27_43 m (jc_up (jc_ui K (l0 + 1) l2 (jc_i K (l0 + 1) (l2 - 1))) (l0 + 2) l2 q36) l0 l1 (l2 + (-1)) l3 else none else none else none) else none else none)
theorem jd27_43 {d : Nat} {σ0 : ib_H} {Q : ib_O → Prop} : ∀ (m : Nat) {K : jc_K} {l0 : Nat} {l1 : Int} {l2 : Int} {l3 : Nat} (hl1 : jb_r l1) (hl2 : jb_r l2) {r : (jc_K × Nat)} (h : fc27_43 m K l0 l1 l2 l3 = some r) (k : ∀ σ, jc_S σ0 r.1 σ → Q (.inl (some (.ref r.2)), σ)), jc_W σ0 K (d + 1) 27 43 [some (.ref l0), some (jb_v l1), some (jb_v l2), some (.ref l3)] [] Q := by
  intro m
  induction m with
  | zero =>
    intro K l0 l1 l2 l3 hl1 hl2 r h k
    cases h
  | succ m ih =>
    intro K l0 l1 l2 l3 hl1 hl2 r h k σ s
    unfold fc27_43 at h
    refine jiL2 (p := 44) rfl jM27 jq27_43 ?_
    refine jw_if (p := 47) rfl jM27 jq27_44 (jc_le hl2 jb_r0) (fun c1 => ?_) (fun c1 => ?_)
    · have h1 := jo_p c1 h
      refine jaL0 (p := 94) rfl jM27 jq27_93 ?_
      obtain ⟨c2, h2⟩ := jo_i h1
      refine jw_getP (p := 97) (i := 9) rfl jM27 jq27_94 rfl (s.rc c2).ob je_3_9 (s.rc c2).pp ?_
      refine jiL2 (p := 98) rfl jM27 jq27_97 ?_
      refine jiL1 (p := 99) rfl jM27 jq27_98 ?_
      obtain ⟨c3, h3⟩ := jo_i h2
      refine jc_iast (p := 100) rfl jM27 jq27_99 (s.rc c2).ap c3.1 c3.2 s (jc_rcd1 c2) hl1 ?_
      intro σ4 s4
      refine jaL0 (p := 101) rfl jM27 jq27_100 ?_
      refine jw_getP (p := 104) (i := 10) rfl jM27 jq27_101 rfl (s4.rc c2).ob je_3_10 (s4.rc c2).pi ?_
      refine jiL2 (p := 105) rfl jM27 jq27_104 ?_
      refine jaL3 (p := 106) rfl jM27 jq27_105 ?_
      obtain ⟨c5, h5⟩ := jo_i h3
      refine jc_aast (p := 107) rfl jM27 jq27_106 (s4.rc c2).ai (Or.inl ⟨rfl, rfl⟩) c3.1 c3.2 (s4.orp c5) s4 (Or.inr (jc_rc2 c2)) ?_
      intro σ6 s6
      refine jaL0 (p := 108) rfl jM27 jq27_107 ?_
      obtain ⟨c7, h7⟩ := jo_i h5
      refine jc_getI (p := 111) (i := 8) rfl jM27 jq27_108 rfl (s6.rc c7).ob jn_3_8 s6 (jc_rcd c7) (by decide) (jc_uN (by omega)) ?_
      refine jw_iconst (p := 112) rfl jM27 jq27_111 ?_
      refine jw_ic (p := 115) rfl jM27 jq27_112 (jc_ge (s.r _ _) (jb_rn rfl)) (fun c8 => ?_) (fun c8 => ?_)
      · have h8 := jo_p c8 h7
        refine jaL3 (p := 126) rfl jM27 jq27_125 ?_
        refine jw_iconst (p := 127) rfl jM27 jq27_126 ?_
        obtain ⟨c9, h9⟩ := jo_i h8
        refine jw_callV [(jb_v 0)] jM27 jq27_127 rfl rfl (s6.pg c9).ob rfl jM34 rfl rfl ?_
        obtain ⟨x10, b11, h11⟩ := jo_b h9
        refine jd34 (jb_rn rfl) b11 (fun σ10 s10 => ?_) σ6 s6
        show jb_w (d + 1) 27 130 [some (.ref l0), some (jb_v l1), some (jb_v l2), some (.ref l3)] [] σ10 Q
        refine jaL3 (p := 131) rfl jM27 jq27_130 ?_
        cases h11
        exact jw_aret jM27 jq27_131 (k σ10 s10)
      · have h8 := jo_n c8 h7
        refine jaL0 (p := 116) rfl jM27 jq27_115 ?_
        refine jw_dupA (p := 117) rfl jM27 jq27_116 ?_
        refine jc_getI (p := 120) (i := 8) rfl jM27 jq27_117 rfl (s6.rc c7).ob jn_3_8 s6 (jc_rcd c7) (by decide) (jc_uN (by omega)) ?_
        refine jw_iconst (p := 121) rfl jM27 jq27_120 ?_
        refine jw_iadd (p := 122) rfl jM27 jq27_121 ?_
        obtain ⟨c12, h12⟩ := jo_i h8
        refine jc_putI (p := 125) (i := 8) rfl jM27 jq27_122 rfl (s6.rc c7).ob (Or.inl jz_3_8) s6 (jc_rcd c7) (by decide) c12 ?_
        intro σ13 s13
        refine jaL3 (p := 126) rfl jM27 jq27_125 ?_
        refine jw_iconst (p := 127) rfl jM27 jq27_126 ?_
        obtain ⟨c14, h14⟩ := jo_i h12
        refine jw_callV [(jb_v 0)] jM27 jq27_127 rfl rfl (s13.pg c14).ob rfl jM34 rfl rfl ?_
        obtain ⟨x15, b16, h16⟩ := jo_b h14
        refine jd34 (jb_rn rfl) b16 (fun σ15 s15 => ?_) σ13 s13
        show jb_w (d + 1) 27 130 [some (.ref l0), some (jb_v l1), some (jb_v l2), some (.ref l3)] [] σ15 Q
        refine jaL3 (p := 131) rfl jM27 jq27_130 ?_
        cases h16
        exact jw_aret jM27 jq27_131 (k σ15 s15)
    · have h1 := jo_n c1 h
      refine jaL0 (p := 48) rfl jM27 jq27_47 ?_
      obtain ⟨c17, h17⟩ := jo_i h1
      refine jw_getP (p := 51) (i := 9) rfl jM27 jq27_48 rfl (s.rc c17).ob je_3_9 (s.rc c17).pp ?_
      refine jiL2 (p := 52) rfl jM27 jq27_51 ?_
      refine jw_iconst (p := 53) rfl jM27 jq27_52 ?_
      refine jw_isub (p := 54) rfl jM27 jq27_53 ?_
      obtain ⟨c18, h18⟩ := jo_i h17
      refine jc_iald (p := 55) rfl jM27 jq27_54 (s.rc c17).ap c18.1 c18.2 s (jc_rcd1 c17) rfl ?_
      refine jiL1 (p := 56) rfl jM27 jq27_55 ?_
      refine jw_ic (p := 59) rfl jM27 jq27_56 (jc_le (s.r _ _) hl1) (fun c19 => ?_) (fun c19 => ?_)
      · have h19 := jo_p c19 h18
        refine jaL0 (p := 94) rfl jM27 jq27_93 ?_
        refine jw_getP (p := 97) (i := 9) rfl jM27 jq27_94 rfl (s.rc c17).ob je_3_9 (s.rc c17).pp ?_
        refine jiL2 (p := 98) rfl jM27 jq27_97 ?_
        refine jiL1 (p := 99) rfl jM27 jq27_98 ?_
        obtain ⟨c20, h20⟩ := jo_i h19
        refine jc_iast (p := 100) rfl jM27 jq27_99 (s.rc c17).ap c20.1 c20.2 s (jc_rcd1 c17) hl1 ?_
        intro σ21 s21
        refine jaL0 (p := 101) rfl jM27 jq27_100 ?_
        refine jw_getP (p := 104) (i := 10) rfl jM27 jq27_101 rfl (s21.rc c17).ob je_3_10 (s21.rc c17).pi ?_
        refine jiL2 (p := 105) rfl jM27 jq27_104 ?_
        refine jaL3 (p := 106) rfl jM27 jq27_105 ?_
        obtain ⟨c22, h22⟩ := jo_i h20
        refine jc_aast (p := 107) rfl jM27 jq27_106 (s21.rc c17).ai (Or.inl ⟨rfl, rfl⟩) c20.1 c20.2 (s21.orp c22) s21 (Or.inr (jc_rc2 c17)) ?_
        intro σ23 s23
        refine jaL0 (p := 108) rfl jM27 jq27_107 ?_
        obtain ⟨c24, h24⟩ := jo_i h22
        refine jc_getI (p := 111) (i := 8) rfl jM27 jq27_108 rfl (s23.rc c24).ob jn_3_8 s23 (jc_rcd c24) (by decide) (jc_uN (by omega)) ?_
        refine jw_iconst (p := 112) rfl jM27 jq27_111 ?_
        refine jw_ic (p := 115) rfl jM27 jq27_112 (jc_ge (s.r _ _) (jb_rn rfl)) (fun c25 => ?_) (fun c25 => ?_)
        · have h25 := jo_p c25 h24
          refine jaL3 (p := 126) rfl jM27 jq27_125 ?_
          refine jw_iconst (p := 127) rfl jM27 jq27_126 ?_
          obtain ⟨c26, h26⟩ := jo_i h25
          refine jw_callV [(jb_v 0)] jM27 jq27_127 rfl rfl (s23.pg c26).ob rfl jM34 rfl rfl ?_
          obtain ⟨x27, b28, h28⟩ := jo_b h26
          refine jd34 (jb_rn rfl) b28 (fun σ27 s27 => ?_) σ23 s23
          show jb_w (d + 1) 27 130 [some (.ref l0), some (jb_v l1), some (jb_v l2), some (.ref l3)] [] σ27 Q
          refine jaL3 (p := 131) rfl jM27 jq27_130 ?_
          cases h28
          exact jw_aret jM27 jq27_131 (k σ27 s27)
        · have h25 := jo_n c25 h24
          refine jaL0 (p := 116) rfl jM27 jq27_115 ?_
          refine jw_dupA (p := 117) rfl jM27 jq27_116 ?_
          refine jc_getI (p := 120) (i := 8) rfl jM27 jq27_117 rfl (s23.rc c24).ob jn_3_8 s23 (jc_rcd c24) (by decide) (jc_uN (by omega)) ?_
          refine jw_iconst (p := 121) rfl jM27 jq27_120 ?_
          refine jw_iadd (p := 122) rfl jM27 jq27_121 ?_
          obtain ⟨c29, h29⟩ := jo_i h25
          refine jc_putI (p := 125) (i := 8) rfl jM27 jq27_122 rfl (s23.rc c24).ob (Or.inl jz_3_8) s23 (jc_rcd c24) (by decide) c29 ?_
          intro σ30 s30
          refine jaL3 (p := 126) rfl jM27 jq27_125 ?_
          refine jw_iconst (p := 127) rfl jM27 jq27_126 ?_
          obtain ⟨c31, h31⟩ := jo_i h29
          refine jw_callV [(jb_v 0)] jM27 jq27_127 rfl rfl (s30.pg c31).ob rfl jM34 rfl rfl ?_
          obtain ⟨x32, b33, h33⟩ := jo_b h31
          refine jd34 (jb_rn rfl) b33 (fun σ32 s32 => ?_) σ30 s30
          show jb_w (d + 1) 27 130 [some (.ref l0), some (jb_v l1), some (jb_v l2), some (.ref l3)] [] σ32 Q
          refine jaL3 (p := 131) rfl jM27 jq27_130 ?_
          cases h33
          exact jw_aret jM27 jq27_131 (k σ32 s32)
      · have h19 := jo_n c19 h18
        refine jaL0 (p := 60) rfl jM27 jq27_59 ?_
        refine jw_getP (p := 63) (i := 9) rfl jM27 jq27_60 rfl (s.rc c17).ob je_3_9 (s.rc c17).pp ?_
        refine jiL2 (p := 64) rfl jM27 jq27_63 ?_
        refine jaL0 (p := 65) rfl jM27 jq27_64 ?_
        refine jw_getP (p := 68) (i := 9) rfl jM27 jq27_65 rfl (s.rc c17).ob je_3_9 (s.rc c17).pp ?_
        refine jiL2 (p := 69) rfl jM27 jq27_68 ?_
        refine jw_iconst (p := 70) rfl jM27 jq27_69 ?_
        refine jw_isub (p := 71) rfl jM27 jq27_70 ?_
        refine jc_iald (p := 72) rfl jM27 jq27_71 (s.rc c17).ap c18.1 c18.2 s (jc_rcd1 c17) rfl ?_
        obtain ⟨c34, h34⟩ := jo_i h19
        refine jc_iast (p := 73) rfl jM27 jq27_72 (s.rc c17).ap c34.1 c34.2 s (jc_rcd1 c17) (s.r _ _) ?_
        intro σ35 s35
        refine jaL0 (p := 74) rfl jM27 jq27_73 ?_
        refine jw_getP (p := 77) (i := 10) rfl jM27 jq27_74 rfl (s35.rc c17).ob je_3_10 (s35.rc c17).pi ?_
        refine jiL2 (p := 78) rfl jM27 jq27_77 ?_
        refine jaL0 (p := 79) rfl jM27 jq27_78 ?_
        refine jw_getP (p := 82) (i := 10) rfl jM27 jq27_79 rfl (s35.rc c17).ob je_3_10 (s35.rc c17).pi ?_
        refine jiL2 (p := 83) rfl jM27 jq27_82 ?_
        refine jw_iconst (p := 84) rfl jM27 jq27_83 ?_
        refine jw_isub (p := 85) rfl jM27 jq27_84 ?_
        obtain ⟨q36, e37, h37⟩ := jo_lnb h34
        refine jc_aald (p := 86) rfl jM27 jq27_85 (s35.rc c17).ai (Or.inl rfl) c18.1 c18.2 s35 e37 ?_
        obtain ⟨c38, h38⟩ := jo_i h37
        refine jc_aast (p := 87) rfl jM27 jq27_86 (s35.rc c17).ai (Or.inl ⟨rfl, rfl⟩) c34.1 c34.2 (s35.orp c38) s35 (Or.inr (jc_rc2 c17)) ?_
        intro σ39 s39
        refine jiI2 (p := 90) rfl jM27 jq27_87 ?_
        refine jw_goto jM27 jq27_90 ?_
        obtain ⟨c40, h40⟩ := jo_i h38
        exact ih hl1 c40 h40 k σ39 s39
def fc27 (K : jc_K) (l0 : Nat) (l1 : Int) : Option (jc_K × Nat) := if jc_rc K l0 then if 3 ≤ jc_i K l0 8 then (jo_ln (jc_p K (l0 + 2) 2) fun q3 => if q3 = 0 then (jo_ln (K.1.1) fun q8 => fc27_43 jo_N (jc_np K) l0 l1 2 q8) else (jo_ln (jc_p K (l0 + 2) 2) fun q6 => fc27_43 jo_N K l0 l1 2 q6)) else (if 0 ≤ (jc_i K l0 8) ∧ (jc_i K l0 8) < 3 then jo_ln (jc_p K (l0 + 2) (jc_i K l0 8)) fun q12 => if q12 = 0 then (jo_ln (K.1.1) fun q17 => fc27_43 jo_N (jc_np K) l0 l1 (jc_i K l0 8) q17) else (jo_ln (jc_p K (l0 + 2) (jc_i K l0 8)) fun q15 => fc27_43 jo_N K l0 l1 (jc_i K l0 8) q15) else none) else none
theorem jd27 {d : Nat} {σ0 : ib_H} {Q : ib_O → Prop} {K : jc_K} {l0 : Nat} {l1 : Int} (hl1 : jb_r l1) {r : (jc_K × Nat)} (h : fc27 K l0 l1 = some r) (k : ∀ σ, jc_S σ0 r.1 σ → Q (.inl (some (.ref r.2)), σ)) : jc_W σ0 K (d + 1) 27 0 [some (.ref l0), some (jb_v l1), none, none] [] Q := by
  intro σ s
  unfold fc27 at h
  refine jaL0 (p := 1) rfl jM27 jq27_0 ?_
  obtain ⟨c1, h1⟩ := jo_i h
  refine jc_getI (p := 4) (i := 8) rfl jM27 jq27_1 rfl (s.rc c1).ob jn_3_8 s (jc_rcd c1) (by decide) rfl ?_
  refine jw_iconst (p := 5) rfl jM27 jq27_4 ?_
  refine jw_ic (p := 8) rfl jM27 jq27_5 (jc_ge (s.r _ _) (jb_rn rfl)) (fun c2 => ?_) (fun c2 => ?_)
  · have h2 := jo_p c2 h1
    refine jw_iconst (p := 16) rfl jM27 jq27_15 ?_
    refine jiS2 (p := 17) rfl jM27 jq27_16 ?_
    refine jaL0 (p := 18) rfl jM27 jq27_17 ?_
    refine jw_getP (p := 21) (i := 10) rfl jM27 jq27_18 rfl (s.rc c1).ob je_3_10 (s.rc c1).pi ?_
    refine jiL2 (p := 22) rfl jM27 jq27_21 ?_
    obtain ⟨q3, e4, h4⟩ := jo_lnb h2
    refine jc_aald (p := 23) rfl jM27 jq27_22 (s.rc c1).ai (Or.inl rfl) (by decide) (by decide) s e4 ?_
    refine jw_ifnonnull (p := 26) rfl jM27 jq27_23 (fun c5 => ?_) (fun c5 => ?_)
    · have h5 := jo_n c5 h4
      refine jaL0 (p := 37) rfl jM27 jq27_36 ?_
      refine jw_getP (p := 40) (i := 10) rfl jM27 jq27_37 rfl (s.rc c1).ob je_3_10 (s.rc c1).pi ?_
      refine jiL2 (p := 41) rfl jM27 jq27_40 ?_
      obtain ⟨q6, e7, h7⟩ := jo_lnb h5
      refine jc_aald (p := 42) rfl jM27 jq27_41 (s.rc c1).ai (Or.inl rfl) (by decide) (by decide) s e7 ?_
      refine jaS3 (p := 43) rfl jM27 jq27_42 ?_
      exact jd27_43 jo_N hl1 (jb_rn rfl) h7 k σ s
    · have h5 := jo_p c5 h4
      obtain ⟨q8, e9, h9⟩ := jo_lnb h5
      refine jc_mkP' (p := 33) rfl jM27 jq27_26 jq27_29 jq27_30 rfl (by decide) s e9 ?_
      intro σ10 s10
      refine jw_goto jM27 jq27_33 ?_
      refine jaS3 (p := 43) rfl jM27 jq27_42 ?_
      exact jd27_43 jo_N hl1 (jb_rn rfl) h9 k σ10 s10
  · have h2 := jo_n c2 h1
    refine jaL0 (p := 9) rfl jM27 jq27_8 ?_
    refine jc_getI (p := 12) (i := 8) rfl jM27 jq27_9 rfl (s.rc c1).ob jn_3_8 s (jc_rcd c1) (by decide) rfl ?_
    refine jw_goto jM27 jq27_12 ?_
    refine jiS2 (p := 17) rfl jM27 jq27_16 ?_
    refine jaL0 (p := 18) rfl jM27 jq27_17 ?_
    refine jw_getP (p := 21) (i := 10) rfl jM27 jq27_18 rfl (s.rc c1).ob je_3_10 (s.rc c1).pi ?_
    refine jiL2 (p := 22) rfl jM27 jq27_21 ?_
    obtain ⟨c11, h11⟩ := jo_i h2
    obtain ⟨q12, e13, h13⟩ := jo_lnb h11
    refine jc_aald (p := 23) rfl jM27 jq27_22 (s.rc c1).ai (Or.inl rfl) c11.1 c11.2 s e13 ?_
    refine jw_ifnonnull (p := 26) rfl jM27 jq27_23 (fun c14 => ?_) (fun c14 => ?_)
    · have h14 := jo_n c14 h13
      refine jaL0 (p := 37) rfl jM27 jq27_36 ?_
      refine jw_getP (p := 40) (i := 10) rfl jM27 jq27_37 rfl (s.rc c1).ob je_3_10 (s.rc c1).pi ?_
      refine jiL2 (p := 41) rfl jM27 jq27_40 ?_
      obtain ⟨q15, e16, h16⟩ := jo_lnb h14
      refine jc_aald (p := 42) rfl jM27 jq27_41 (s.rc c1).ai (Or.inl rfl) c11.1 c11.2 s e16 ?_
      refine jaS3 (p := 43) rfl jM27 jq27_42 ?_
      exact jd27_43 jo_N hl1 (s.r _ _) h16 k σ s
    · have h14 := jo_p c14 h13
      obtain ⟨q17, e18, h18⟩ := jo_lnb h14
      refine jc_mkP' (p := 33) rfl jM27 jq27_26 jq27_29 jq27_30 rfl (by decide) s e18 ?_
      intro σ19 s19
      refine jw_goto jM27 jq27_33 ?_
      refine jaS3 (p := 43) rfl jM27 jq27_42 ?_
      exact jd27_43 jo_N hl1 (s.r _ _) h18 k σ19 s19
-- 28 PageLoom$LogRecord.toldLatest need 0
def fc28 (K : jc_K) (l0 : Nat) (l1 : Int) : Option (jc_K × Int) := if jc_rc K l0 then jo_ln (jc_p K l0 11) fun q2 => if q2 = 0 then (some (K, 0)) else (if l1 < 0 then (some (K, 0)) else (jo_ln (jc_p K l0 11) fun q6 => if jc_ta K q6 4 then if 4 ≤ l1 then (some (K, 0)) else (jo_ln (jc_p K l0 11) fun q10 => if jc_ta K q10 4 then if 0 ≤ l1 ∧ l1 < 4 then some (K, jc_i K q10 l1) else none else none) else none)) else none
theorem jd28 {d : Nat} {σ0 : ib_H} {Q : ib_O → Prop} {K : jc_K} {l0 : Nat} {l1 : Int} (hl1 : jb_r l1) {r : (jc_K × Int)} (h : fc28 K l0 l1 = some r) (k : ∀ σ, jc_S σ0 r.1 σ → jb_r r.2 → Q (.inl (some (jb_v r.2)), σ)) : jc_W σ0 K d 28 0 [some (.ref l0), some (jb_v l1), none] [] Q := by
  intro σ s
  unfold fc28 at h
  refine jaL0 (p := 1) rfl jM28 jq28_0 ?_
  obtain ⟨c1, h1⟩ := jo_i h
  obtain ⟨q2, e3, h3⟩ := jo_lnb h1
  refine jc_getP (p := 4) (i := 11) rfl jM28 jq28_1 rfl (s.rc c1).ob je_3_11 s (by decide) e3 ?_
  refine jw_ifnull (p := 7) rfl jM28 jq28_4 (fun c4 => ?_) (fun c4 => ?_)
  · have h4 := jo_p c4 h3
    refine jw_iconst (p := 25) rfl jM28 jq28_24 ?_
    refine jiS2 (p := 26) rfl jM28 jq28_25 ?_
    refine jiL2 (p := 27) rfl jM28 jq28_26 ?_
    refine jw_if (p := 30) rfl jM28 jq28_27 (jc_eq (jb_rn rfl) jb_r0) (fun _ => ?_) (fun z => absurd (by decide) z)
    refine jw_iconst (p := 40) rfl jM28 jq28_39 ?_
    cases h4
    exact jw_iret jM28 jq28_40 (fun z => absurd z (by decide)) (k σ s (jb_rn rfl))
  · have h4 := jo_n c4 h3
    refine jiL1 (p := 8) rfl jM28 jq28_7 ?_
    refine jw_if (p := 11) rfl jM28 jq28_8 (jc_lt hl1 jb_r0) (fun c5 => ?_) (fun c5 => ?_)
    · have h5 := jo_p c5 h4
      refine jw_iconst (p := 25) rfl jM28 jq28_24 ?_
      refine jiS2 (p := 26) rfl jM28 jq28_25 ?_
      refine jiL2 (p := 27) rfl jM28 jq28_26 ?_
      refine jw_if (p := 30) rfl jM28 jq28_27 (jc_eq (jb_rn rfl) jb_r0) (fun _ => ?_) (fun z => absurd (by decide) z)
      refine jw_iconst (p := 40) rfl jM28 jq28_39 ?_
      cases h5
      exact jw_iret jM28 jq28_40 (fun z => absurd z (by decide)) (k σ s (jb_rn rfl))
    · have h5 := jo_n c5 h4
      refine jiL1 (p := 12) rfl jM28 jq28_11 ?_
      refine jaL0 (p := 13) rfl jM28 jq28_12 ?_
      obtain ⟨q6, e7, h7⟩ := jo_lnb h5
      refine jc_getP (p := 16) (i := 11) rfl jM28 jq28_13 rfl (s.rc c1).ob je_3_11 s (by decide) e7 ?_
      obtain ⟨c8, h8⟩ := jo_i h7
      refine jw_alen (p := 17) rfl jM28 jq28_16 (s.ta c8 (by decide)) (by decide) ?_
      refine jw_ic (p := 20) rfl jM28 jq28_17 (jc_ge hl1 (jb_rn rfl)) (fun c9 => ?_) (fun c9 => ?_)
      · have h9 := jo_p c9 h8
        refine jw_iconst (p := 25) rfl jM28 jq28_24 ?_
        refine jiS2 (p := 26) rfl jM28 jq28_25 ?_
        refine jiL2 (p := 27) rfl jM28 jq28_26 ?_
        refine jw_if (p := 30) rfl jM28 jq28_27 (jc_eq (jb_rn rfl) jb_r0) (fun _ => ?_) (fun z => absurd (by decide) z)
        refine jw_iconst (p := 40) rfl jM28 jq28_39 ?_
        cases h9
        exact jw_iret jM28 jq28_40 (fun z => absurd z (by decide)) (k σ s (jb_rn rfl))
      · have h9 := jo_n c9 h8
        refine jw_iconst (p := 21) rfl jM28 jq28_20 ?_
        refine jw_goto jM28 jq28_21 ?_
        refine jiS2 (p := 26) rfl jM28 jq28_25 ?_
        refine jiL2 (p := 27) rfl jM28 jq28_26 ?_
        refine jw_if (p := 30) rfl jM28 jq28_27 (jc_eq (jb_rn rfl) jb_r0) (fun z => absurd z (by decide)) (fun _ => ?_)
        refine jaL0 (p := 31) rfl jM28 jq28_30 ?_
        obtain ⟨q10, e11, h11⟩ := jo_lnb h9
        refine jc_getP (p := 34) (i := 11) rfl jM28 jq28_31 rfl (s.rc c1).ob je_3_11 s (by decide) e11 ?_
        refine jiL1 (p := 35) rfl jM28 jq28_34 ?_
        obtain ⟨c12, h12⟩ := jo_i h11
        obtain ⟨c13, h13⟩ := jo_i h12
        refine jc_iald (p := 36) rfl jM28 jq28_35 (s.ta c12 (by decide)) c13.1 c13.2 s (jc_tad c12) rfl ?_
        refine jw_goto jM28 jq28_36 ?_
        cases h13
        exact jw_iret jM28 jq28_40 (fun z => absurd z (by decide)) (k σ s (s.r _ _))
-- 29 PageLoom$LogRecord.toldFirst need 0
def fc29 (K : jc_K) (l0 : Nat) (l1 : Int) : Option (jc_K × Int) := if jc_rc K l0 then jo_ln (jc_p K l0 12) fun q2 => if q2 = 0 then (some (K, 0)) else (if l1 < 0 then (some (K, 0)) else (jo_ln (jc_p K l0 12) fun q6 => if jc_ta K q6 24 then if 24 ≤ l1 then (some (K, 0)) else (jo_ln (jc_p K l0 12) fun q10 => if jc_ta K q10 24 then if 0 ≤ l1 ∧ l1 < 24 then some (K, jc_i K q10 l1) else none else none) else none)) else none
theorem jd29 {d : Nat} {σ0 : ib_H} {Q : ib_O → Prop} {K : jc_K} {l0 : Nat} {l1 : Int} (hl1 : jb_r l1) {r : (jc_K × Int)} (h : fc29 K l0 l1 = some r) (k : ∀ σ, jc_S σ0 r.1 σ → jb_r r.2 → Q (.inl (some (jb_v r.2)), σ)) : jc_W σ0 K d 29 0 [some (.ref l0), some (jb_v l1)] [] Q := by
  intro σ s
  unfold fc29 at h
  refine jaL0 (p := 1) rfl jM29 jq29_0 ?_
  obtain ⟨c1, h1⟩ := jo_i h
  obtain ⟨q2, e3, h3⟩ := jo_lnb h1
  refine jc_getP (p := 4) (i := 12) rfl jM29 jq29_1 rfl (s.rc c1).ob je_3_12 s (by decide) e3 ?_
  refine jw_ifnull (p := 7) rfl jM29 jq29_4 (fun c4 => ?_) (fun c4 => ?_)
  · have h4 := jo_p c4 h3
    refine jw_iconst (p := 30) rfl jM29 jq29_29 ?_
    cases h4
    exact jw_iret jM29 jq29_30 (fun z => absurd z (by decide)) (k σ s (jb_rn rfl))
  · have h4 := jo_n c4 h3
    refine jiL1 (p := 8) rfl jM29 jq29_7 ?_
    refine jw_if (p := 11) rfl jM29 jq29_8 (jc_lt hl1 jb_r0) (fun c5 => ?_) (fun c5 => ?_)
    · have h5 := jo_p c5 h4
      refine jw_iconst (p := 30) rfl jM29 jq29_29 ?_
      cases h5
      exact jw_iret jM29 jq29_30 (fun z => absurd z (by decide)) (k σ s (jb_rn rfl))
    · have h5 := jo_n c5 h4
      refine jiL1 (p := 12) rfl jM29 jq29_11 ?_
      refine jaL0 (p := 13) rfl jM29 jq29_12 ?_
      obtain ⟨q6, e7, h7⟩ := jo_lnb h5
      refine jc_getP (p := 16) (i := 12) rfl jM29 jq29_13 rfl (s.rc c1).ob je_3_12 s (by decide) e7 ?_
      obtain ⟨c8, h8⟩ := jo_i h7
      refine jw_alen (p := 17) rfl jM29 jq29_16 (s.ta c8 (by decide)) (by decide) ?_
      refine jw_ic (p := 20) rfl jM29 jq29_17 (jc_ge hl1 (jb_rn rfl)) (fun c9 => ?_) (fun c9 => ?_)
      · have h9 := jo_p c9 h8
        refine jw_iconst (p := 30) rfl jM29 jq29_29 ?_
        cases h9
        exact jw_iret jM29 jq29_30 (fun z => absurd z (by decide)) (k σ s (jb_rn rfl))
      · have h9 := jo_n c9 h8
        refine jaL0 (p := 21) rfl jM29 jq29_20 ?_
        obtain ⟨q10, e11, h11⟩ := jo_lnb h9
        refine jc_getP (p := 24) (i := 12) rfl jM29 jq29_21 rfl (s.rc c1).ob je_3_12 s (by decide) e11 ?_
        refine jiL1 (p := 25) rfl jM29 jq29_24 ?_
        obtain ⟨c12, h12⟩ := jo_i h11
        obtain ⟨c13, h13⟩ := jo_i h12
        refine jc_iald (p := 26) rfl jM29 jq29_25 (s.ta c12 (by decide)) c13.1 c13.2 s (jc_tad c12) rfl ?_
        refine jw_goto jM29 jq29_26 ?_
        cases h13
        exact jw_iret jM29 jq29_30 (fun z => absurd z (by decide)) (k σ s (s.r _ _))
-- 30 PageLoom$LogRecord.pageAt need 0
def fc30 (K : jc_K) (l0 : Nat) (l1 : Int) : Option (jc_K × Int) := if l1 < 0 then (some (K, (-1))) else (if jc_rc K l0 then if jc_i K l0 8 ≤ l1 then (some (K, (-1))) else (if 3 ≤ l1 then (some (K, (-1))) else (if 0 ≤ l1 ∧ l1 < 3 then some (K, jc_i K (l0 + 1) l1) else none)) else none)
theorem jd30 {d : Nat} {σ0 : ib_H} {Q : ib_O → Prop} {K : jc_K} {l0 : Nat} {l1 : Int} (hl1 : jb_r l1) {r : (jc_K × Int)} (h : fc30 K l0 l1 = some r) (k : ∀ σ, jc_S σ0 r.1 σ → jb_r r.2 → Q (.inl (some (jb_v r.2)), σ)) : jc_W σ0 K d 30 0 [some (.ref l0), some (jb_v l1)] [] Q := by
  intro σ s
  unfold fc30 at h
  refine jiL1 (p := 1) rfl jM30 jq30_0 ?_
  refine jw_if (p := 4) rfl jM30 jq30_1 (jc_lt hl1 jb_r0) (fun c1 => ?_) (fun c1 => ?_)
  · have h1 := jo_p c1 h
    refine jw_iconst (p := 27) rfl jM30 jq30_26 ?_
    cases h1
    exact jw_iret jM30 jq30_27 (fun z => absurd z (by decide)) (k σ s (jb_rn rfl))
  · have h1 := jo_n c1 h
    refine jiL1 (p := 5) rfl jM30 jq30_4 ?_
    refine jaL0 (p := 6) rfl jM30 jq30_5 ?_
    obtain ⟨c2, h2⟩ := jo_i h1
    refine jc_getI (p := 9) (i := 8) rfl jM30 jq30_6 rfl (s.rc c2).ob jn_3_8 s (jc_rcd c2) (by decide) rfl ?_
    refine jw_ic (p := 12) rfl jM30 jq30_9 (jc_ge hl1 (s.r _ _)) (fun c3 => ?_) (fun c3 => ?_)
    · have h3 := jo_p c3 h2
      refine jw_iconst (p := 27) rfl jM30 jq30_26 ?_
      cases h3
      exact jw_iret jM30 jq30_27 (fun z => absurd z (by decide)) (k σ s (jb_rn rfl))
    · have h3 := jo_n c3 h2
      refine jiL1 (p := 13) rfl jM30 jq30_12 ?_
      refine jw_iconst (p := 14) rfl jM30 jq30_13 ?_
      refine jw_ic (p := 17) rfl jM30 jq30_14 (jc_ge hl1 (jb_rn rfl)) (fun c4 => ?_) (fun c4 => ?_)
      · have h4 := jo_p c4 h3
        refine jw_iconst (p := 27) rfl jM30 jq30_26 ?_
        cases h4
        exact jw_iret jM30 jq30_27 (fun z => absurd z (by decide)) (k σ s (jb_rn rfl))
      · have h4 := jo_n c4 h3
        refine jaL0 (p := 18) rfl jM30 jq30_17 ?_
        refine jw_getP (p := 21) (i := 9) rfl jM30 jq30_18 rfl (s.rc c2).ob je_3_9 (s.rc c2).pp ?_
        refine jiL1 (p := 22) rfl jM30 jq30_21 ?_
        obtain ⟨c5, h5⟩ := jo_i h4
        refine jc_iald (p := 23) rfl jM30 jq30_22 (s.rc c2).ap c5.1 c5.2 s (jc_rcd1 c2) rfl ?_
        refine jw_goto jM30 jq30_23 ?_
        cases h5
        exact jw_iret jM30 jq30_27 (fun z => absurd z (by decide)) (k σ s (s.r _ _))
-- 44 PageLoom$Page.placeOfKey need 0
def fc44_2 : Nat → jc_K → Nat → Int → Int → Option (jc_K × Int)
  | 0, _, _, _, _ => none
  | m + 1, K, l0, l1, l2 => if jc_pg K l0 then if jc_i K l0 2 ≤ l2 then (some (K, l2)) else (if 32 ≤ l2 then (some (K, l2)) else (if 0 ≤ l2 ∧ l2 < 32 then if 0 ≤ (jc_i K (l0 + 1) l2) then if l1 ≤ (jc_i K (l0 + 1) l2) / 1000 then (some (K, l2)) else (if -2147483648 ≤ (l2 + 1) ∧ (l2 + 1) < 2147483648 then fc44_2 m K l0 l1 (l2 + 1) else none) else none else none)) else none
theorem jd44_2 {d : Nat} {σ0 : ib_H} {Q : ib_O → Prop} : ∀ (m : Nat) {K : jc_K} {l0 : Nat} {l1 : Int} {l2 : Int} (hl1 : jb_r l1) (hl2 : jb_r l2) {r : (jc_K × Int)} (h : fc44_2 m K l0 l1 l2 = some r) (k : ∀ σ, jc_S σ0 r.1 σ → jb_r r.2 → Q (.inl (some (jb_v r.2)), σ)), jc_W σ0 K d 44 2 [some (.ref l0), some (jb_v l1), some (jb_v l2)] [] Q := by
  intro m
  induction m with
  | zero =>
    intro K l0 l1 l2 hl1 hl2 r h k
    cases h
  | succ m ih =>
    intro K l0 l1 l2 hl1 hl2 r h k σ s
    unfold fc44_2 at h
    refine jiL2 (p := 3) rfl jM44 jq44_2 ?_
    refine jaL0 (p := 4) rfl jM44 jq44_3 ?_
    obtain ⟨c1, h1⟩ := jo_i h
    refine jc_getI (p := 7) (i := 2) rfl jM44 jq44_4 rfl (s.pg c1).ob jn_4_2 s (jc_pgd c1) (by decide) rfl ?_
    refine jw_ic (p := 10) rfl jM44 jq44_7 (jc_ge hl2 (s.r _ _)) (fun c2 => ?_) (fun c2 => ?_)
    · have h2 := jo_p c2 h1
      refine jiL2 (p := 37) rfl jM44 jq44_36 ?_
      cases h2
      exact jw_iret jM44 jq44_37 (fun z => absurd z (by decide)) (k σ s hl2)
    · have h2 := jo_n c2 h1
      refine jiL2 (p := 11) rfl jM44 jq44_10 ?_
      refine jw_bipush (p := 13) rfl jM44 jq44_11 (by decide) ?_
      refine jw_ic (p := 16) rfl jM44 jq44_13 (jc_ge hl2 (jb_rn rfl)) (fun c3 => ?_) (fun c3 => ?_)
      · have h3 := jo_p c3 h2
        refine jiL2 (p := 37) rfl jM44 jq44_36 ?_
        cases h3
        exact jw_iret jM44 jq44_37 (fun z => absurd z (by decide)) (k σ s hl2)
      · have h3 := jo_n c3 h2
        refine jaL0 (p := 17) rfl jM44 jq44_16 ?_
        refine jw_getP (p := 20) (i := 3) rfl jM44 jq44_17 rfl (s.pg c1).ob je_4_3 (s.pg c1).pc ?_
        refine jiL2 (p := 21) rfl jM44 jq44_20 ?_
        obtain ⟨c4, h4⟩ := jo_i h3
        refine jc_iald (p := 22) rfl jM44 jq44_21 (s.pg c1).ar c4.1 c4.2 s (jc_pgd1 c1) rfl ?_
        refine jw_sipush (p := 25) rfl jM44 jq44_22 (by decide) ?_
        obtain ⟨c5, h5⟩ := jo_i h4
        refine jw_idiv (p := 26) rfl jM44 jq44_25 c5 (s.r _ _) (by decide) (jb_rn rfl) ?_
        refine jiL1 (p := 27) rfl jM44 jq44_26 ?_
        refine jw_ic (p := 30) rfl jM44 jq44_27 (jc_ge (jb_r_div c5 (s.r _ _) (by decide)) hl1) (fun c6 => ?_) (fun c6 => ?_)
        · have h6 := jo_p c6 h5
          refine jiL2 (p := 37) rfl jM44 jq44_36 ?_
          cases h6
          exact jw_iret jM44 jq44_37 (fun z => absurd z (by decide)) (k σ s hl2)
        · have h6 := jo_n c6 h5
          refine jiI2 (p := 33) rfl jM44 jq44_30 ?_
          refine jw_goto jM44 jq44_33 ?_
          obtain ⟨c7, h7⟩ := jo_i h6
          exact ih hl1 c7 h7 k σ s
def fc44 (K : jc_K) (l0 : Nat) (l1 : Int) : Option (jc_K × Int) := fc44_2 jo_N K l0 l1 0
theorem jd44 {d : Nat} {σ0 : ib_H} {Q : ib_O → Prop} {K : jc_K} {l0 : Nat} {l1 : Int} (hl1 : jb_r l1) {r : (jc_K × Int)} (h : fc44 K l0 l1 = some r) (k : ∀ σ, jc_S σ0 r.1 σ → jb_r r.2 → Q (.inl (some (jb_v r.2)), σ)) : jc_W σ0 K d 44 0 [some (.ref l0), some (jb_v l1), none] [] Q := by
  intro σ s
  unfold fc44 at h
  refine jw_iconst (p := 1) rfl jM44 jq44_0 ?_
  refine jiS2 (p := 2) rfl jM44 jq44_1 ?_
  exact jd44_2 jo_N hl1 (jb_rn rfl) h k σ s
-- 45 PageLoom$Page.insert need 0
def fc45_27 : Nat → jc_K → Nat → Int → Int → Int → Option (jc_K × Int)
  | 0, _, _, _, _, _ => none
  | m + 1, K, l0, l1, l2, l3 => if l3 ≤ l1 then (if jc_pg K l0 then if 0 ≤ l1 ∧ l1 < 32 then if -2147483648 ≤ ((jc_i K l0 2) + 1) ∧ ((jc_i K l0 2) + 1) < 2147483648 then some (jc_ui (jc_ui K (l0 + 1) l1 l2) l0 2 ((jc_i K l0 2) + 1), 0) else none else none else none) else (if jc_pg K l0 then if 0 ≤ (l3 - 1) ∧ (l3 - 1) < 32 then if 0 ≤ l3 ∧ l3 < 32 then if -2147483648 ≤ (l3 + (-1)) ∧ (l3 + (-1)) < 2147483648 then fc45_27 m (jc_ui K (l0 + 1) l3 (jc_i K (l0 + 1) (l3 - 1))) l0 l1 l2 (l3 + (-1)) else none else none else none else none)
theorem jd45_27 {d : Nat} {σ0 : ib_H} {Q : ib_O → Prop} : ∀ (m : Nat) {K : jc_K} {l0 : Nat} {l1 : Int} {l2 : Int} {l3 : Int} (hl1 : jb_r l1) (hl2 : jb_r l2) (hl3 : jb_r l3) {r : (jc_K × Int)} (h : fc45_27 m K l0 l1 l2 l3 = some r) (k : ∀ σ, jc_S σ0 r.1 σ → Q (.inl none, σ)), jc_W σ0 K d 45 27 [some (.ref l0), some (jb_v l1), some (jb_v l2), some (jb_v l3)] [] Q := by
  intro m
  induction m with
  | zero =>
    intro K l0 l1 l2 l3 hl1 hl2 hl3 r h k
    cases h
  | succ m ih =>
    intro K l0 l1 l2 l3 hl1 hl2 hl3 r h k σ s
    unfold fc45_27 at h
    refine jiL3 (p := 28) rfl jM45 jq45_27 ?_
    refine jiL1 (p := 29) rfl jM45 jq45_28 ?_
    refine jw_ic (p := 32) rfl jM45 jq45_29 (jc_le hl3 hl1) (fun c1 => ?_) (fun c1 => ?_)
    · have h1 := jo_p c1 h
      refine jaL0 (p := 53) rfl jM45 jq45_52 ?_
      obtain ⟨c2, h2⟩ := jo_i h1
      refine jw_getP (p := 56) (i := 3) rfl jM45 jq45_53 rfl (s.pg c2).ob je_4_3 (s.pg c2).pc ?_
      refine jiL1 (p := 57) rfl jM45 jq45_56 ?_
      refine jiL2 (p := 58) rfl jM45 jq45_57 ?_
      obtain ⟨c3, h3⟩ := jo_i h2
      refine jc_iast (p := 59) rfl jM45 jq45_58 (s.pg c2).ar c3.1 c3.2 s (jc_pgd1 c2) hl2 ?_
      intro σ4 s4
      refine jaL0 (p := 60) rfl jM45 jq45_59 ?_
      refine jw_dupA (p := 61) rfl jM45 jq45_60 ?_
      refine jc_getI (p := 64) (i := 2) rfl jM45 jq45_61 rfl (s4.pg c2).ob jn_4_2 s4 (jc_pgd c2) (by decide) (jc_uN (by omega)) ?_
      refine jw_iconst (p := 65) rfl jM45 jq45_64 ?_
      refine jw_iadd (p := 66) rfl jM45 jq45_65 ?_
      obtain ⟨c5, h5⟩ := jo_i h3
      refine jc_putI (p := 69) (i := 2) rfl jM45 jq45_66 rfl (s4.pg c2).ob (Or.inl jz_4_2) s4 (jc_pgd c2) (by decide) c5 ?_
      intro σ6 s6
      cases h5
      exact jw_vret jM45 jq45_69 (k σ6 s6)
    · have h1 := jo_n c1 h
      refine jaL0 (p := 33) rfl jM45 jq45_32 ?_
      obtain ⟨c7, h7⟩ := jo_i h1
      refine jw_getP (p := 36) (i := 3) rfl jM45 jq45_33 rfl (s.pg c7).ob je_4_3 (s.pg c7).pc ?_
      refine jiL3 (p := 37) rfl jM45 jq45_36 ?_
      refine jaL0 (p := 38) rfl jM45 jq45_37 ?_
      refine jw_getP (p := 41) (i := 3) rfl jM45 jq45_38 rfl (s.pg c7).ob je_4_3 (s.pg c7).pc ?_
      refine jiL3 (p := 42) rfl jM45 jq45_41 ?_
      refine jw_iconst (p := 43) rfl jM45 jq45_42 ?_
      refine jw_isub (p := 44) rfl jM45 jq45_43 ?_
      obtain ⟨c8, h8⟩ := jo_i h7
      refine jc_iald (p := 45) rfl jM45 jq45_44 (s.pg c7).ar c8.1 c8.2 s (jc_pgd1 c7) rfl ?_
      obtain ⟨c9, h9⟩ := jo_i h8
      refine jc_iast (p := 46) rfl jM45 jq45_45 (s.pg c7).ar c9.1 c9.2 s (jc_pgd1 c7) (s.r _ _) ?_
      intro σ10 s10
      refine jiI3 (p := 49) rfl jM45 jq45_46 ?_
      refine jw_goto jM45 jq45_49 ?_
      obtain ⟨c11, h11⟩ := jo_i h9
      exact ih hl1 hl2 c11 h11 k σ10 s10
def fc45 (K : jc_K) (l0 : Nat) (l1 : Int) (l2 : Int) : Option (jc_K × Int) := if l1 < 0 then (some (K, 0)) else (if jc_pg K l0 then if jc_i K l0 2 < l1 then (some (K, 0)) else (if jc_i K l0 2 < 32 then (fc45_27 jo_N K l0 l1 l2 (jc_i K l0 2)) else (some (K, 0))) else none)
theorem jd45 {d : Nat} {σ0 : ib_H} {Q : ib_O → Prop} {K : jc_K} {l0 : Nat} {l1 : Int} {l2 : Int} (hl1 : jb_r l1) (hl2 : jb_r l2) {r : (jc_K × Int)} (h : fc45 K l0 l1 l2 = some r) (k : ∀ σ, jc_S σ0 r.1 σ → Q (.inl none, σ)) : jc_W σ0 K d 45 0 [some (.ref l0), some (jb_v l1), some (jb_v l2), none] [] Q := by
  intro σ s
  unfold fc45 at h
  refine jiL1 (p := 1) rfl jM45 jq45_0 ?_
  refine jw_if (p := 4) rfl jM45 jq45_1 (jc_lt hl1 jb_r0) (fun c1 => ?_) (fun c1 => ?_)
  · have h1 := jo_p c1 h
    cases h1
    exact jw_vret jM45 jq45_21 (k σ s)
  · have h1 := jo_n c1 h
    refine jiL1 (p := 5) rfl jM45 jq45_4 ?_
    refine jaL0 (p := 6) rfl jM45 jq45_5 ?_
    obtain ⟨c2, h2⟩ := jo_i h1
    refine jc_getI (p := 9) (i := 2) rfl jM45 jq45_6 rfl (s.pg c2).ob jn_4_2 s (jc_pgd c2) (by decide) rfl ?_
    refine jw_ic (p := 12) rfl jM45 jq45_9 (jc_gt hl1 (s.r _ _)) (fun c3 => ?_) (fun c3 => ?_)
    · have h3 := jo_p c3 h2
      cases h3
      exact jw_vret jM45 jq45_21 (k σ s)
    · have h3 := jo_n c3 h2
      refine jaL0 (p := 13) rfl jM45 jq45_12 ?_
      refine jc_getI (p := 16) (i := 2) rfl jM45 jq45_13 rfl (s.pg c2).ob jn_4_2 s (jc_pgd c2) (by decide) rfl ?_
      refine jw_bipush (p := 18) rfl jM45 jq45_16 (by decide) ?_
      refine jw_ic (p := 21) rfl jM45 jq45_18 (jc_lt (s.r _ _) (jb_rn rfl)) (fun c4 => ?_) (fun c4 => ?_)
      · have h4 := jo_p c4 h3
        refine jaL0 (p := 23) rfl jM45 jq45_22 ?_
        refine jc_getI (p := 26) (i := 2) rfl jM45 jq45_23 rfl (s.pg c2).ob jn_4_2 s (jc_pgd c2) (by decide) rfl ?_
        refine jiS3 (p := 27) rfl jM45 jq45_26 ?_
        exact jd45_27 jo_N hl1 hl2 (s.r _ _) h4 k σ s
      · have h4 := jo_n c4 h3
        cases h4
        exact jw_vret jM45 jq45_21 (k σ s)
-- 46 PageLoom$Page.remove need 0
def fc46_26 : Nat → jc_K → Nat → Int → Int → Option (jc_K × Int)
  | 0, _, _, _, _ => none
  | m + 1, K, l0, l1, l2 => if jc_pg K l0 then if jc_i K l0 2 ≤ l2 then (if -2147483648 ≤ ((jc_i K l0 2) - 1) ∧ ((jc_i K l0 2) - 1) < 2147483648 then some (jc_ui K l0 2 ((jc_i K l0 2) - 1), 0) else none) else (if 0 ≤ l2 ∧ l2 < 32 then if 0 ≤ (l2 - 1) ∧ (l2 - 1) < 32 then if -2147483648 ≤ (l2 + 1) ∧ (l2 + 1) < 2147483648 then fc46_26 m (jc_ui K (l0 + 1) (l2 - 1) (jc_i K (l0 + 1) l2)) l0 l1 (l2 + 1) else none else none else none) else none
theorem jd46_26 {d : Nat} {σ0 : ib_H} {Q : ib_O → Prop} : ∀ (m : Nat) {K : jc_K} {l0 : Nat} {l1 : Int} {l2 : Int} (hl1 : jb_r l1) (hl2 : jb_r l2) {r : (jc_K × Int)} (h : fc46_26 m K l0 l1 l2 = some r) (k : ∀ σ, jc_S σ0 r.1 σ → Q (.inl none, σ)), jc_W σ0 K d 46 26 [some (.ref l0), some (jb_v l1), some (jb_v l2)] [] Q := by
  intro m
  induction m with
  | zero =>
    intro K l0 l1 l2 hl1 hl2 r h k
    cases h
  | succ m ih =>
    intro K l0 l1 l2 hl1 hl2 r h k σ s
    unfold fc46_26 at h
    refine jiL2 (p := 27) rfl jM46 jq46_26 ?_
    refine jaL0 (p := 28) rfl jM46 jq46_27 ?_
    obtain ⟨c1, h1⟩ := jo_i h
    refine jc_getI (p := 31) (i := 2) rfl jM46 jq46_28 rfl (s.pg c1).ob jn_4_2 s (jc_pgd c1) (by decide) rfl ?_
    refine jw_ic (p := 34) rfl jM46 jq46_31 (jc_ge hl2 (s.r _ _)) (fun c2 => ?_) (fun c2 => ?_)
    · have h2 := jo_p c2 h1
      refine jaL0 (p := 55) rfl jM46 jq46_54 ?_
      refine jw_dupA (p := 56) rfl jM46 jq46_55 ?_
      refine jc_getI (p := 59) (i := 2) rfl jM46 jq46_56 rfl (s.pg c1).ob jn_4_2 s (jc_pgd c1) (by decide) rfl ?_
      refine jw_iconst (p := 60) rfl jM46 jq46_59 ?_
      refine jw_isub (p := 61) rfl jM46 jq46_60 ?_
      obtain ⟨c3, h3⟩ := jo_i h2
      refine jc_putI (p := 64) (i := 2) rfl jM46 jq46_61 rfl (s.pg c1).ob (Or.inl jz_4_2) s (jc_pgd c1) (by decide) c3 ?_
      intro σ4 s4
      cases h3
      exact jw_vret jM46 jq46_64 (k σ4 s4)
    · have h2 := jo_n c2 h1
      refine jaL0 (p := 35) rfl jM46 jq46_34 ?_
      refine jw_getP (p := 38) (i := 3) rfl jM46 jq46_35 rfl (s.pg c1).ob je_4_3 (s.pg c1).pc ?_
      refine jiL2 (p := 39) rfl jM46 jq46_38 ?_
      refine jw_iconst (p := 40) rfl jM46 jq46_39 ?_
      refine jw_isub (p := 41) rfl jM46 jq46_40 ?_
      refine jaL0 (p := 42) rfl jM46 jq46_41 ?_
      refine jw_getP (p := 45) (i := 3) rfl jM46 jq46_42 rfl (s.pg c1).ob je_4_3 (s.pg c1).pc ?_
      refine jiL2 (p := 46) rfl jM46 jq46_45 ?_
      obtain ⟨c5, h5⟩ := jo_i h2
      refine jc_iald (p := 47) rfl jM46 jq46_46 (s.pg c1).ar c5.1 c5.2 s (jc_pgd1 c1) rfl ?_
      obtain ⟨c6, h6⟩ := jo_i h5
      refine jc_iast (p := 48) rfl jM46 jq46_47 (s.pg c1).ar c6.1 c6.2 s (jc_pgd1 c1) (s.r _ _) ?_
      intro σ7 s7
      refine jiI2 (p := 51) rfl jM46 jq46_48 ?_
      refine jw_goto jM46 jq46_51 ?_
      obtain ⟨c8, h8⟩ := jo_i h6
      exact ih hl1 c8 h8 k σ7 s7
def fc46 (K : jc_K) (l0 : Nat) (l1 : Int) : Option (jc_K × Int) := if l1 < 0 then (some (K, 0)) else (if jc_pg K l0 then if jc_i K l0 2 ≤ l1 then (some (K, 0)) else (if jc_i K l0 2 ≤ 32 then (if -2147483648 ≤ (l1 + 1) ∧ (l1 + 1) < 2147483648 then fc46_26 jo_N K l0 l1 (l1 + 1) else none) else (some (K, 0))) else none)
theorem jd46 {d : Nat} {σ0 : ib_H} {Q : ib_O → Prop} {K : jc_K} {l0 : Nat} {l1 : Int} (hl1 : jb_r l1) {r : (jc_K × Int)} (h : fc46 K l0 l1 = some r) (k : ∀ σ, jc_S σ0 r.1 σ → Q (.inl none, σ)) : jc_W σ0 K d 46 0 [some (.ref l0), some (jb_v l1), none] [] Q := by
  intro σ s
  unfold fc46 at h
  refine jiL1 (p := 1) rfl jM46 jq46_0 ?_
  refine jw_if (p := 4) rfl jM46 jq46_1 (jc_lt hl1 jb_r0) (fun c1 => ?_) (fun c1 => ?_)
  · have h1 := jo_p c1 h
    cases h1
    exact jw_vret jM46 jq46_21 (k σ s)
  · have h1 := jo_n c1 h
    refine jiL1 (p := 5) rfl jM46 jq46_4 ?_
    refine jaL0 (p := 6) rfl jM46 jq46_5 ?_
    obtain ⟨c2, h2⟩ := jo_i h1
    refine jc_getI (p := 9) (i := 2) rfl jM46 jq46_6 rfl (s.pg c2).ob jn_4_2 s (jc_pgd c2) (by decide) rfl ?_
    refine jw_ic (p := 12) rfl jM46 jq46_9 (jc_ge hl1 (s.r _ _)) (fun c3 => ?_) (fun c3 => ?_)
    · have h3 := jo_p c3 h2
      cases h3
      exact jw_vret jM46 jq46_21 (k σ s)
    · have h3 := jo_n c3 h2
      refine jaL0 (p := 13) rfl jM46 jq46_12 ?_
      refine jc_getI (p := 16) (i := 2) rfl jM46 jq46_13 rfl (s.pg c2).ob jn_4_2 s (jc_pgd c2) (by decide) rfl ?_
      refine jw_bipush (p := 18) rfl jM46 jq46_16 (by decide) ?_
      refine jw_ic (p := 21) rfl jM46 jq46_18 (jc_le (s.r _ _) (jb_rn rfl)) (fun c4 => ?_) (fun c4 => ?_)
      · have h4 := jo_p c4 h3
        refine jiL1 (p := 23) rfl jM46 jq46_22 ?_
        refine jw_iconst (p := 24) rfl jM46 jq46_23 ?_
        refine jw_iadd (p := 25) rfl jM46 jq46_24 ?_
        refine jiS2 (p := 26) rfl jM46 jq46_25 ?_
        obtain ⟨c5, h5⟩ := jo_i h4
        exact jd46_26 jo_N hl1 c5 h5 k σ s
      · have h4 := jo_n c4 h3
        cases h4
        exact jw_vret jM46 jq46_21 (k σ s)
-- 43 PageLoom$Page.setValue need 1
def fc43 (K : jc_K) (l0 : Nat) (l1 : Int) (l2 : Int) : Option (jc_K × Int) := if jc_pg K l0 then (fc44 K l0 l1).bind fun x2 => if jc_pg (x2.1) l0 then if jc_i (x2.1) l0 2 ≤ x2.2 then (if l2 = (-1) then (some (x2.1, 0)) else (if -2147483648 ≤ ((1000 * l1) + l2) ∧ ((1000 * l1) + l2) < 2147483648 then (fc45 (x2.1) l0 (x2.2) ((1000 * l1) + l2)).bind fun x8 => some (x8.1, 0) else none)) else (if 32 ≤ x2.2 then (if l2 = (-1) then (some (x2.1, 0)) else (if -2147483648 ≤ ((1000 * l1) + l2) ∧ ((1000 * l1) + l2) < 2147483648 then (fc45 (x2.1) l0 (x2.2) ((1000 * l1) + l2)).bind fun x13 => some (x13.1, 0) else none)) else (if 0 ≤ (x2.2) ∧ (x2.2) < 32 then if 0 ≤ (jc_i (x2.1) (l0 + 1) (x2.2)) then if (jc_i (x2.1) (l0 + 1) (x2.2)) / 1000 = l1 then (if l2 = (-1) then ((fc46 (x2.1) l0 (x2.2)).bind fun x25 => some (x25.1, 0)) else (if -2147483648 ≤ ((1000 * l1) + l2) ∧ ((1000 * l1) + l2) < 2147483648 then some (jc_ui (x2.1) (l0 + 1) (x2.2) ((1000 * l1) + l2), 0) else none)) else (if l2 = (-1) then (some (x2.1, 0)) else (if -2147483648 ≤ ((1000 * l1) + l2) ∧ ((1000 * l1) + l2) < 2147483648 then (fc45 (x2.1) l0 (x2.2) ((1000 * l1) + l2)).bind fun x20 => some (x20.1, 0) else none)) else none else none)) else none else none
theorem jd43 {d : Nat} {σ0 : ib_H} {Q : ib_O → Prop} {K : jc_K} {l0 : Nat} {l1 : Int} {l2 : Int} (hl1 : jb_r l1) (hl2 : jb_r l2) {r : (jc_K × Int)} (h : fc43 K l0 l1 l2 = some r) (k : ∀ σ, jc_S σ0 r.1 σ → Q (.inl none, σ)) : jc_W σ0 K (d + 1) 43 0 [some (.ref l0), some (jb_v l1), some (jb_v l2), none, none] [] Q := by
  intro σ s
  unfold fc43 at h
  refine jaL0 (p := 1) rfl jM43 jq43_0 ?_
  refine jiL1 (p := 2) rfl jM43 jq43_1 ?_
  obtain ⟨c1, h1⟩ := jo_i h
  refine jw_callV [(jb_v l1)] jM43 jq43_2 rfl rfl (s.pg c1).ob rfl jM44 rfl rfl ?_
  obtain ⟨x2, b3, h3⟩ := jo_b h1
  refine jd44 hl1 b3 (fun σ2 s2 r2 => ?_) σ s
  show jb_w (d + 1) 43 5 [some (.ref l0), some (jb_v l1), some (jb_v l2), none, none] [(jb_v (x2.2))] σ2 Q
  refine jiS3 (p := 6) rfl jM43 jq43_5 ?_
  refine jiL3 (p := 7) rfl jM43 jq43_6 ?_
  refine jaL0 (p := 8) rfl jM43 jq43_7 ?_
  obtain ⟨c4, h4⟩ := jo_i h3
  refine jc_getI (p := 11) (i := 2) rfl jM43 jq43_8 rfl (s2.pg c4).ob jn_4_2 s2 (jc_pgd c4) (by decide) rfl ?_
  refine jw_ic (p := 14) rfl jM43 jq43_11 (jc_ge r2 (s2.r _ _)) (fun c5 => ?_) (fun c5 => ?_)
  · have h5 := jo_p c5 h4
    refine jw_iconst (p := 39) rfl jM43 jq43_38 ?_
    refine jiS4 (p := 41) rfl jM43 jq43_39 ?_
    refine jiL2 (p := 42) rfl jM43 jq43_41 ?_
    refine jw_iconst (p := 43) rfl jM43 jq43_42 ?_
    refine jw_ic (p := 46) rfl jM43 jq43_43 (jc_ne hl2 (jb_rn rfl)) (fun c6 => ?_) (fun c6 => ?_)
    · have h6 := jo_n c6 h5
      refine jiL2 (p := 60) rfl jM43 jq43_59 ?_
      refine jw_iconst (p := 61) rfl jM43 jq43_60 ?_
      refine jw_ic (p := 64) rfl jM43 jq43_61 (jc_eq hl2 (jb_rn rfl)) (fun z => absurd z c6) (fun _ => ?_)
      refine jiL4 (p := 66) rfl jM43 jq43_64 ?_
      refine jw_if (p := 69) rfl jM43 jq43_66 (jc_eq (jb_rn rfl) jb_r0) (fun _ => ?_) (fun z => absurd (by decide) z)
      refine jiL2 (p := 86) rfl jM43 jq43_85 ?_
      refine jw_iconst (p := 87) rfl jM43 jq43_86 ?_
      refine jw_ic (p := 90) rfl jM43 jq43_87 (jc_eq hl2 (jb_rn rfl)) (fun z => absurd z c6) (fun _ => ?_)
      refine jaL0 (p := 91) rfl jM43 jq43_90 ?_
      refine jiL3 (p := 92) rfl jM43 jq43_91 ?_
      refine jw_sipush (p := 95) rfl jM43 jq43_92 (by decide) ?_
      refine jiL1 (p := 96) rfl jM43 jq43_95 ?_
      refine jw_imul (p := 97) rfl jM43 jq43_96 ?_
      refine jiL2 (p := 98) rfl jM43 jq43_97 ?_
      refine jw_iadd (p := 99) rfl jM43 jq43_98 ?_
      obtain ⟨c7, h7⟩ := jo_i h6
      refine jw_callV [(jb_v (x2.2)), (jb_v ((1000 * l1) + l2))] jM43 jq43_99 rfl rfl (s2.pg c4).ob rfl jM45 rfl rfl ?_
      obtain ⟨x8, b9, h9⟩ := jo_b h7
      refine jd45 r2 c7 b9 (fun σ8 s8 => ?_) σ2 s2
      show jb_w (d + 1) 43 102 [some (.ref l0), some (jb_v l1), some (jb_v l2), some (jb_v (x2.2)), some (jb_v 0)] [] σ8 Q
      cases h9
      exact jw_vret jM43 jq43_102 (k σ8 s8)
    · have h6 := jo_p (Decidable.byContradiction c6) h5
      refine jiL4 (p := 48) rfl jM43 jq43_46 ?_
      refine jw_if (p := 51) rfl jM43 jq43_48 (jc_eq (jb_rn rfl) jb_r0) (fun _ => ?_) (fun z => absurd (by decide) z)
      refine jiL2 (p := 60) rfl jM43 jq43_59 ?_
      refine jw_iconst (p := 61) rfl jM43 jq43_60 ?_
      refine jw_ic (p := 64) rfl jM43 jq43_61 (jc_eq hl2 (jb_rn rfl)) (fun _ => ?_) (fun z => absurd (Decidable.byContradiction c6) z)
      refine jiL2 (p := 86) rfl jM43 jq43_85 ?_
      refine jw_iconst (p := 87) rfl jM43 jq43_86 ?_
      refine jw_ic (p := 90) rfl jM43 jq43_87 (jc_eq hl2 (jb_rn rfl)) (fun _ => ?_) (fun z => absurd (Decidable.byContradiction c6) z)
      cases h6
      exact jw_vret jM43 jq43_102 (k σ2 s2)
  · have h5 := jo_n c5 h4
    refine jiL3 (p := 15) rfl jM43 jq43_14 ?_
    refine jw_bipush (p := 17) rfl jM43 jq43_15 (by decide) ?_
    refine jw_ic (p := 20) rfl jM43 jq43_17 (jc_ge r2 (jb_rn rfl)) (fun c10 => ?_) (fun c10 => ?_)
    · have h10 := jo_p c10 h5
      refine jw_iconst (p := 39) rfl jM43 jq43_38 ?_
      refine jiS4 (p := 41) rfl jM43 jq43_39 ?_
      refine jiL2 (p := 42) rfl jM43 jq43_41 ?_
      refine jw_iconst (p := 43) rfl jM43 jq43_42 ?_
      refine jw_ic (p := 46) rfl jM43 jq43_43 (jc_ne hl2 (jb_rn rfl)) (fun c11 => ?_) (fun c11 => ?_)
      · have h11 := jo_n c11 h10
        refine jiL2 (p := 60) rfl jM43 jq43_59 ?_
        refine jw_iconst (p := 61) rfl jM43 jq43_60 ?_
        refine jw_ic (p := 64) rfl jM43 jq43_61 (jc_eq hl2 (jb_rn rfl)) (fun z => absurd z c11) (fun _ => ?_)
        refine jiL4 (p := 66) rfl jM43 jq43_64 ?_
        refine jw_if (p := 69) rfl jM43 jq43_66 (jc_eq (jb_rn rfl) jb_r0) (fun _ => ?_) (fun z => absurd (by decide) z)
        refine jiL2 (p := 86) rfl jM43 jq43_85 ?_
        refine jw_iconst (p := 87) rfl jM43 jq43_86 ?_
        refine jw_ic (p := 90) rfl jM43 jq43_87 (jc_eq hl2 (jb_rn rfl)) (fun z => absurd z c11) (fun _ => ?_)
        refine jaL0 (p := 91) rfl jM43 jq43_90 ?_
        refine jiL3 (p := 92) rfl jM43 jq43_91 ?_
        refine jw_sipush (p := 95) rfl jM43 jq43_92 (by decide) ?_
        refine jiL1 (p := 96) rfl jM43 jq43_95 ?_
        refine jw_imul (p := 97) rfl jM43 jq43_96 ?_
        refine jiL2 (p := 98) rfl jM43 jq43_97 ?_
        refine jw_iadd (p := 99) rfl jM43 jq43_98 ?_
        obtain ⟨c12, h12⟩ := jo_i h11
        refine jw_callV [(jb_v (x2.2)), (jb_v ((1000 * l1) + l2))] jM43 jq43_99 rfl rfl (s2.pg c4).ob rfl jM45 rfl rfl ?_
        obtain ⟨x13, b14, h14⟩ := jo_b h12
        refine jd45 r2 c12 b14 (fun σ13 s13 => ?_) σ2 s2
        show jb_w (d + 1) 43 102 [some (.ref l0), some (jb_v l1), some (jb_v l2), some (jb_v (x2.2)), some (jb_v 0)] [] σ13 Q
        cases h14
        exact jw_vret jM43 jq43_102 (k σ13 s13)
      · have h11 := jo_p (Decidable.byContradiction c11) h10
        refine jiL4 (p := 48) rfl jM43 jq43_46 ?_
        refine jw_if (p := 51) rfl jM43 jq43_48 (jc_eq (jb_rn rfl) jb_r0) (fun _ => ?_) (fun z => absurd (by decide) z)
        refine jiL2 (p := 60) rfl jM43 jq43_59 ?_
        refine jw_iconst (p := 61) rfl jM43 jq43_60 ?_
        refine jw_ic (p := 64) rfl jM43 jq43_61 (jc_eq hl2 (jb_rn rfl)) (fun _ => ?_) (fun z => absurd (Decidable.byContradiction c11) z)
        refine jiL2 (p := 86) rfl jM43 jq43_85 ?_
        refine jw_iconst (p := 87) rfl jM43 jq43_86 ?_
        refine jw_ic (p := 90) rfl jM43 jq43_87 (jc_eq hl2 (jb_rn rfl)) (fun _ => ?_) (fun z => absurd (Decidable.byContradiction c11) z)
        cases h11
        exact jw_vret jM43 jq43_102 (k σ2 s2)
    · have h10 := jo_n c10 h5
      refine jaL0 (p := 21) rfl jM43 jq43_20 ?_
      refine jw_getP (p := 24) (i := 3) rfl jM43 jq43_21 rfl (s2.pg c4).ob je_4_3 (s2.pg c4).pc ?_
      refine jiL3 (p := 25) rfl jM43 jq43_24 ?_
      obtain ⟨c15, h15⟩ := jo_i h10
      refine jc_iald (p := 26) rfl jM43 jq43_25 (s2.pg c4).ar c15.1 c15.2 s2 (jc_pgd1 c4) rfl ?_
      refine jw_sipush (p := 29) rfl jM43 jq43_26 (by decide) ?_
      obtain ⟨c16, h16⟩ := jo_i h15
      refine jw_idiv (p := 30) rfl jM43 jq43_29 c16 (s2.r _ _) (by decide) (jb_rn rfl) ?_
      refine jiL1 (p := 31) rfl jM43 jq43_30 ?_
      refine jw_ic (p := 34) rfl jM43 jq43_31 (jc_ne (jb_r_div c16 (s2.r _ _) (by decide)) hl1) (fun c17 => ?_) (fun c17 => ?_)
      · have h17 := jo_n c17 h16
        refine jw_iconst (p := 39) rfl jM43 jq43_38 ?_
        refine jiS4 (p := 41) rfl jM43 jq43_39 ?_
        refine jiL2 (p := 42) rfl jM43 jq43_41 ?_
        refine jw_iconst (p := 43) rfl jM43 jq43_42 ?_
        refine jw_ic (p := 46) rfl jM43 jq43_43 (jc_ne hl2 (jb_rn rfl)) (fun c18 => ?_) (fun c18 => ?_)
        · have h18 := jo_n c18 h17
          refine jiL2 (p := 60) rfl jM43 jq43_59 ?_
          refine jw_iconst (p := 61) rfl jM43 jq43_60 ?_
          refine jw_ic (p := 64) rfl jM43 jq43_61 (jc_eq hl2 (jb_rn rfl)) (fun z => absurd z c18) (fun _ => ?_)
          refine jiL4 (p := 66) rfl jM43 jq43_64 ?_
          refine jw_if (p := 69) rfl jM43 jq43_66 (jc_eq (jb_rn rfl) jb_r0) (fun _ => ?_) (fun z => absurd (by decide) z)
          refine jiL2 (p := 86) rfl jM43 jq43_85 ?_
          refine jw_iconst (p := 87) rfl jM43 jq43_86 ?_
          refine jw_ic (p := 90) rfl jM43 jq43_87 (jc_eq hl2 (jb_rn rfl)) (fun z => absurd z c18) (fun _ => ?_)
          refine jaL0 (p := 91) rfl jM43 jq43_90 ?_
          refine jiL3 (p := 92) rfl jM43 jq43_91 ?_
          refine jw_sipush (p := 95) rfl jM43 jq43_92 (by decide) ?_
          refine jiL1 (p := 96) rfl jM43 jq43_95 ?_
          refine jw_imul (p := 97) rfl jM43 jq43_96 ?_
          refine jiL2 (p := 98) rfl jM43 jq43_97 ?_
          refine jw_iadd (p := 99) rfl jM43 jq43_98 ?_
          obtain ⟨c19, h19⟩ := jo_i h18
          refine jw_callV [(jb_v (x2.2)), (jb_v ((1000 * l1) + l2))] jM43 jq43_99 rfl rfl (s2.pg c4).ob rfl jM45 rfl rfl ?_
          obtain ⟨x20, b21, h21⟩ := jo_b h19
          refine jd45 r2 c19 b21 (fun σ20 s20 => ?_) σ2 s2
          show jb_w (d + 1) 43 102 [some (.ref l0), some (jb_v l1), some (jb_v l2), some (jb_v (x2.2)), some (jb_v 0)] [] σ20 Q
          cases h21
          exact jw_vret jM43 jq43_102 (k σ20 s20)
        · have h18 := jo_p (Decidable.byContradiction c18) h17
          refine jiL4 (p := 48) rfl jM43 jq43_46 ?_
          refine jw_if (p := 51) rfl jM43 jq43_48 (jc_eq (jb_rn rfl) jb_r0) (fun _ => ?_) (fun z => absurd (by decide) z)
          refine jiL2 (p := 60) rfl jM43 jq43_59 ?_
          refine jw_iconst (p := 61) rfl jM43 jq43_60 ?_
          refine jw_ic (p := 64) rfl jM43 jq43_61 (jc_eq hl2 (jb_rn rfl)) (fun _ => ?_) (fun z => absurd (Decidable.byContradiction c18) z)
          refine jiL2 (p := 86) rfl jM43 jq43_85 ?_
          refine jw_iconst (p := 87) rfl jM43 jq43_86 ?_
          refine jw_ic (p := 90) rfl jM43 jq43_87 (jc_eq hl2 (jb_rn rfl)) (fun _ => ?_) (fun z => absurd (Decidable.byContradiction c18) z)
          cases h18
          exact jw_vret jM43 jq43_102 (k σ2 s2)
      · have h17 := jo_p (Decidable.byContradiction c17) h16
        refine jw_iconst (p := 35) rfl jM43 jq43_34 ?_
        refine jw_goto jM43 jq43_35 ?_
        refine jiS4 (p := 41) rfl jM43 jq43_39 ?_
        refine jiL2 (p := 42) rfl jM43 jq43_41 ?_
        refine jw_iconst (p := 43) rfl jM43 jq43_42 ?_
        refine jw_ic (p := 46) rfl jM43 jq43_43 (jc_ne hl2 (jb_rn rfl)) (fun c22 => ?_) (fun c22 => ?_)
        · have h22 := jo_n c22 h17
          refine jiL2 (p := 60) rfl jM43 jq43_59 ?_
          refine jw_iconst (p := 61) rfl jM43 jq43_60 ?_
          refine jw_ic (p := 64) rfl jM43 jq43_61 (jc_eq hl2 (jb_rn rfl)) (fun z => absurd z c22) (fun _ => ?_)
          refine jiL4 (p := 66) rfl jM43 jq43_64 ?_
          refine jw_if (p := 69) rfl jM43 jq43_66 (jc_eq (jb_rn rfl) jb_r0) (fun z => absurd z (by decide)) (fun _ => ?_)
          refine jaL0 (p := 70) rfl jM43 jq43_69 ?_
          refine jw_getP (p := 73) (i := 3) rfl jM43 jq43_70 rfl (s2.pg c4).ob je_4_3 (s2.pg c4).pc ?_
          refine jiL3 (p := 74) rfl jM43 jq43_73 ?_
          refine jw_sipush (p := 77) rfl jM43 jq43_74 (by decide) ?_
          refine jiL1 (p := 78) rfl jM43 jq43_77 ?_
          refine jw_imul (p := 79) rfl jM43 jq43_78 ?_
          refine jiL2 (p := 80) rfl jM43 jq43_79 ?_
          refine jw_iadd (p := 81) rfl jM43 jq43_80 ?_
          obtain ⟨c23, h23⟩ := jo_i h22
          refine jc_iast (p := 82) rfl jM43 jq43_81 (s2.pg c4).ar c15.1 c15.2 s2 (jc_pgd1 c4) c23 ?_
          intro σ24 s24
          refine jw_goto jM43 jq43_82 ?_
          cases h23
          exact jw_vret jM43 jq43_102 (k σ24 s24)
        · have h22 := jo_p (Decidable.byContradiction c22) h17
          refine jiL4 (p := 48) rfl jM43 jq43_46 ?_
          refine jw_if (p := 51) rfl jM43 jq43_48 (jc_eq (jb_rn rfl) jb_r0) (fun z => absurd z (by decide)) (fun _ => ?_)
          refine jaL0 (p := 52) rfl jM43 jq43_51 ?_
          refine jiL3 (p := 53) rfl jM43 jq43_52 ?_
          refine jw_callV [(jb_v (x2.2))] jM43 jq43_53 rfl rfl (s2.pg c4).ob rfl jM46 rfl rfl ?_
          obtain ⟨x25, b26, h26⟩ := jo_b h22
          refine jd46 r2 b26 (fun σ25 s25 => ?_) σ2 s2
          show jb_w (d + 1) 43 56 [some (.ref l0), some (jb_v l1), some (jb_v l2), some (jb_v (x2.2)), some (jb_v 1)] [] σ25 Q
          refine jw_goto jM43 jq43_56 ?_
          cases h26
          exact jw_vret jM43 jq43_102 (k σ25 s25)
-- 31 PageLoom$LogRecord.changePage need 2
def fc31_59 (K : jc_K) (l0 : Nat) (l1 : Int) (l2 : Nat) (l3 : Nat) : Option (jc_K × Int) := if jc_rc K l0 then if jc_pg K l2 then some (jc_ui K l2 1 (jc_i K l0 0), 0) else none else none
theorem jd31_59 {d : Nat} {σ0 : ib_H} {Q : ib_O → Prop} {K : jc_K} {l0 : Nat} {l1 : Int} {l2 : Nat} {l3 : Nat} (hl1 : jb_r l1) {r : (jc_K × Int)} (h : fc31_59 K l0 l1 l2 l3 = some r) (k : ∀ σ, jc_S σ0 r.1 σ → Q (.inl none, σ)) : jc_W σ0 K (d + 2) 31 59 [some (.ref l0), some (jb_v l1), some (.ref l2), some (.ref l3)] [] Q := by
  intro σ s
  unfold fc31_59 at h
  refine jaL2 (p := 60) rfl jM31 jq31_59 ?_
  refine jaL0 (p := 61) rfl jM31 jq31_60 ?_
  obtain ⟨c1, h1⟩ := jo_i h
  refine jc_getI (p := 64) (i := 0) rfl jM31 jq31_61 rfl (s.rc c1).ob jn_3_0 s (jc_rcd c1) (by decide) rfl ?_
  obtain ⟨c2, h2⟩ := jo_i h1
  refine jc_putI (p := 67) (i := 1) rfl jM31 jq31_64 rfl (s.pg c2).ob (Or.inl jz_4_1) s (jc_pgd c2) (by decide) (s.r _ _) ?_
  intro σ3 s3
  cases h2
  exact jw_vret jM31 jq31_67 (k σ3 s3)
def fc31_20 (K : jc_K) (l0 : Nat) (l1 : Int) (l2 : Nat) (l3 : Nat) : Option (jc_K × Int) := if jc_rc K l0 then if jc_i K l0 1 = 0 then (if jc_pg K l2 then (fc43 K l2 (jc_i K l0 3) (jc_i K l0 5)).bind fun x4 => fc31_59 (x4.1) l0 l1 l2 l3 else none) else (if jc_i K l0 1 = 1 then (if jc_pg K l2 then (fc43 K l2 (jc_i K l0 3) (jc_i K l0 5)).bind fun x12 => fc31_59 (x12.1) l0 l1 l2 l3 else none) else (if l3 = 0 then (fc31_59 K l0 l1 l2 l3) else (if jc_pg K l2 then (fc35 K l2 l3).bind fun x9 => fc31_59 (x9.1) l0 l1 l2 l3 else none))) else none
theorem jd31_20 {d : Nat} {σ0 : ib_H} {Q : ib_O → Prop} {K : jc_K} {l0 : Nat} {l1 : Int} {l2 : Nat} {l3 : Nat} (hl1 : jb_r l1) {r : (jc_K × Int)} (h : fc31_20 K l0 l1 l2 l3 = some r) (k : ∀ σ, jc_S σ0 r.1 σ → Q (.inl none, σ)) : jc_W σ0 K (d + 2) 31 20 [some (.ref l0), some (jb_v l1), some (.ref l2), some (.ref l3)] [] Q := by
  intro σ s
  unfold fc31_20 at h
  refine jaL0 (p := 21) rfl jM31 jq31_20 ?_
  obtain ⟨c1, h1⟩ := jo_i h
  refine jc_getI (p := 24) (i := 1) rfl jM31 jq31_21 rfl (s.rc c1).ob jn_3_1 s (jc_rcd c1) (by decide) rfl ?_
  refine jw_if (p := 27) rfl jM31 jq31_24 (jc_eq (s.r _ _) jb_r0) (fun c2 => ?_) (fun c2 => ?_)
  · have h2 := jo_p c2 h1
    refine jaL2 (p := 36) rfl jM31 jq31_35 ?_
    refine jaL0 (p := 37) rfl jM31 jq31_36 ?_
    refine jc_getI (p := 40) (i := 3) rfl jM31 jq31_37 rfl (s.rc c1).ob jn_3_3 s (jc_rcd c1) (by decide) rfl ?_
    refine jaL0 (p := 41) rfl jM31 jq31_40 ?_
    refine jc_getI (p := 44) (i := 5) rfl jM31 jq31_41 rfl (s.rc c1).ob jn_3_5 s (jc_rcd c1) (by decide) rfl ?_
    obtain ⟨c3, h3⟩ := jo_i h2
    refine jw_callV [(jb_v (jc_i K l0 3)), (jb_v (jc_i K l0 5))] jM31 jq31_44 rfl rfl (s.pg c3).ob rfl jM43 rfl rfl ?_
    obtain ⟨x4, b5, h5⟩ := jo_b h3
    refine jd43 (s.r _ _) (s.r _ _) b5 (fun σ4 s4 => ?_) σ s
    show jb_w (d + 2) 31 47 [some (.ref l0), some (jb_v l1), some (.ref l2), some (.ref l3)] [] σ4 Q
    refine jw_goto jM31 jq31_47 ?_
    exact jd31_59 hl1 h5 k σ4 s4
  · have h2 := jo_n c2 h1
    refine jaL0 (p := 28) rfl jM31 jq31_27 ?_
    refine jc_getI (p := 31) (i := 1) rfl jM31 jq31_28 rfl (s.rc c1).ob jn_3_1 s (jc_rcd c1) (by decide) rfl ?_
    refine jw_iconst (p := 32) rfl jM31 jq31_31 ?_
    refine jw_ic (p := 35) rfl jM31 jq31_32 (jc_ne (s.r _ _) (jb_rn rfl)) (fun c6 => ?_) (fun c6 => ?_)
    · have h6 := jo_n c6 h2
      refine jaL3 (p := 51) rfl jM31 jq31_50 ?_
      refine jw_ifnull (p := 54) rfl jM31 jq31_51 (fun c7 => ?_) (fun c7 => ?_)
      · have h7 := jo_p c7 h6
        exact jd31_59 hl1 h7 k σ s
      · have h7 := jo_n c7 h6
        refine jaL2 (p := 55) rfl jM31 jq31_54 ?_
        refine jaL3 (p := 56) rfl jM31 jq31_55 ?_
        obtain ⟨c8, h8⟩ := jo_i h7
        refine jw_callV [(.ref l3)] jM31 jq31_56 rfl rfl (s.pg c8).ob rfl jM35 rfl rfl ?_
        obtain ⟨x9, b10, h10⟩ := jo_b h8
        refine jd35  b10 (fun σ9 s9 => ?_) σ s
        show jb_w (d + 2) 31 59 [some (.ref l0), some (jb_v l1), some (.ref l2), some (.ref l3)] [] σ9 Q
        exact jd31_59 hl1 h10 k σ9 s9
    · have h6 := jo_p (Decidable.byContradiction c6) h2
      refine jaL2 (p := 36) rfl jM31 jq31_35 ?_
      refine jaL0 (p := 37) rfl jM31 jq31_36 ?_
      refine jc_getI (p := 40) (i := 3) rfl jM31 jq31_37 rfl (s.rc c1).ob jn_3_3 s (jc_rcd c1) (by decide) rfl ?_
      refine jaL0 (p := 41) rfl jM31 jq31_40 ?_
      refine jc_getI (p := 44) (i := 5) rfl jM31 jq31_41 rfl (s.rc c1).ob jn_3_5 s (jc_rcd c1) (by decide) rfl ?_
      obtain ⟨c11, h11⟩ := jo_i h6
      refine jw_callV [(jb_v (jc_i K l0 3)), (jb_v (jc_i K l0 5))] jM31 jq31_44 rfl rfl (s.pg c11).ob rfl jM43 rfl rfl ?_
      obtain ⟨x12, b13, h13⟩ := jo_b h11
      refine jd43 (s.r _ _) (s.r _ _) b13 (fun σ12 s12 => ?_) σ s
      show jb_w (d + 2) 31 47 [some (.ref l0), some (jb_v l1), some (.ref l2), some (.ref l3)] [] σ12 Q
      refine jw_goto jM31 jq31_47 ?_
      exact jd31_59 hl1 h13 k σ12 s12
def fc31 (K : jc_K) (l0 : Nat) (l1 : Int) (l2 : Nat) : Option (jc_K × Int) := if l1 < 0 then (fc31_20 K l0 l1 l2 0) else (if 3 ≤ l1 then (fc31_20 K l0 l1 l2 0) else (if jc_rc K l0 then if 0 ≤ l1 ∧ l1 < 3 then jo_ln (jc_p K (l0 + 2) l1) fun q5 => fc31_20 K l0 l1 l2 q5 else none else none))
theorem jd31 {d : Nat} {σ0 : ib_H} {Q : ib_O → Prop} {K : jc_K} {l0 : Nat} {l1 : Int} {l2 : Nat} (hl1 : jb_r l1) {r : (jc_K × Int)} (h : fc31 K l0 l1 l2 = some r) (k : ∀ σ, jc_S σ0 r.1 σ → Q (.inl none, σ)) : jc_W σ0 K (d + 2) 31 0 [some (.ref l0), some (jb_v l1), some (.ref l2), none] [] Q := by
  intro σ s
  unfold fc31 at h
  refine jiL1 (p := 1) rfl jM31 jq31_0 ?_
  refine jw_if (p := 4) rfl jM31 jq31_1 (jc_lt hl1 jb_r0) (fun c1 => ?_) (fun c1 => ?_)
  · have h1 := jo_p c1 h
    refine jw_null (p := 19) rfl jM31 jq31_18 ?_
    refine jaS3 (p := 20) rfl jM31 jq31_19 ?_
    exact jd31_20 hl1 h1 k σ s
  · have h1 := jo_n c1 h
    refine jiL1 (p := 5) rfl jM31 jq31_4 ?_
    refine jw_iconst (p := 6) rfl jM31 jq31_5 ?_
    refine jw_ic (p := 9) rfl jM31 jq31_6 (jc_ge hl1 (jb_rn rfl)) (fun c2 => ?_) (fun c2 => ?_)
    · have h2 := jo_p c2 h1
      refine jw_null (p := 19) rfl jM31 jq31_18 ?_
      refine jaS3 (p := 20) rfl jM31 jq31_19 ?_
      exact jd31_20 hl1 h2 k σ s
    · have h2 := jo_n c2 h1
      refine jaL0 (p := 10) rfl jM31 jq31_9 ?_
      obtain ⟨c3, h3⟩ := jo_i h2
      refine jw_getP (p := 13) (i := 10) rfl jM31 jq31_10 rfl (s.rc c3).ob je_3_10 (s.rc c3).pi ?_
      refine jiL1 (p := 14) rfl jM31 jq31_13 ?_
      obtain ⟨c4, h4⟩ := jo_i h3
      obtain ⟨q5, e6, h6⟩ := jo_lnb h4
      refine jc_aald (p := 15) rfl jM31 jq31_14 (s.rc c3).ai (Or.inl rfl) c4.1 c4.2 s e6 ?_
      refine jw_goto jM31 jq31_15 ?_
      refine jaS3 (p := 20) rfl jM31 jq31_19 ?_
      exact jd31_20 hl1 h6 k σ s
-- 36 PageLoom$Page.isBare need 0
def fc36 (K : jc_K) (l0 : Nat) : Option (jc_K × Int) := if jc_pg K l0 then if jc_i K l0 0 = 0 then (some (K, 0)) else (if jc_i K l0 2 = 0 then (some (K, 1)) else (some (K, 0))) else none
theorem jd36 {d : Nat} {σ0 : ib_H} {Q : ib_O → Prop} {K : jc_K} {l0 : Nat} {r : (jc_K × Int)} (h : fc36 K l0 = some r) (k : ∀ σ, jc_S σ0 r.1 σ → jb_r r.2 → Q (.inl (some (jb_v r.2)), σ)) : jc_W σ0 K d 36 0 [some (.ref l0)] [] Q := by
  intro σ s
  unfold fc36 at h
  refine jaL0 (p := 1) rfl jM36 jq36_0 ?_
  obtain ⟨c1, h1⟩ := jo_i h
  refine jc_getI (p := 4) (i := 0) rfl jM36 jq36_1 rfl (s.pg c1).ob jn_4_0 s (jc_pgd c1) (by decide) rfl ?_
  refine jw_if (p := 7) rfl jM36 jq36_4 (jc_eq (s.r _ _) jb_r0) (fun c2 => ?_) (fun c2 => ?_)
  · have h2 := jo_p c2 h1
    refine jw_iconst (p := 19) rfl jM36 jq36_18 ?_
    cases h2
    exact jw_iret jM36 jq36_19 (fun _ => Or.inl rfl) (k σ s (jb_rn rfl))
  · have h2 := jo_n c2 h1
    refine jaL0 (p := 8) rfl jM36 jq36_7 ?_
    refine jc_getI (p := 11) (i := 2) rfl jM36 jq36_8 rfl (s.pg c1).ob jn_4_2 s (jc_pgd c1) (by decide) rfl ?_
    refine jw_if (p := 14) rfl jM36 jq36_11 (jc_ne (s.r _ _) jb_r0) (fun c3 => ?_) (fun c3 => ?_)
    · have h3 := jo_n c3 h2
      refine jw_iconst (p := 19) rfl jM36 jq36_18 ?_
      cases h3
      exact jw_iret jM36 jq36_19 (fun _ => Or.inl rfl) (k σ s (jb_rn rfl))
    · have h3 := jo_p (Decidable.byContradiction c3) h2
      refine jw_iconst (p := 15) rfl jM36 jq36_14 ?_
      refine jw_goto jM36 jq36_15 ?_
      cases h3
      exact jw_iret jM36 jq36_19 (fun _ => Or.inr rfl) (k σ s (jb_rn rfl))
-- 37 PageLoom$Page.cellAt need 0
def fc37 (K : jc_K) (l0 : Nat) (l1 : Int) : Option (jc_K × Int) := if l1 < 0 then (some (K, (-1))) else (if jc_pg K l0 then if jc_i K l0 2 ≤ l1 then (some (K, (-1))) else (if 32 ≤ l1 then (some (K, (-1))) else (if 0 ≤ l1 ∧ l1 < 32 then some (K, jc_i K (l0 + 1) l1) else none)) else none)
theorem jd37 {d : Nat} {σ0 : ib_H} {Q : ib_O → Prop} {K : jc_K} {l0 : Nat} {l1 : Int} (hl1 : jb_r l1) {r : (jc_K × Int)} (h : fc37 K l0 l1 = some r) (k : ∀ σ, jc_S σ0 r.1 σ → jb_r r.2 → Q (.inl (some (jb_v r.2)), σ)) : jc_W σ0 K d 37 0 [some (.ref l0), some (jb_v l1)] [] Q := by
  intro σ s
  unfold fc37 at h
  refine jiL1 (p := 1) rfl jM37 jq37_0 ?_
  refine jw_if (p := 4) rfl jM37 jq37_1 (jc_lt hl1 jb_r0) (fun c1 => ?_) (fun c1 => ?_)
  · have h1 := jo_p c1 h
    refine jw_iconst (p := 28) rfl jM37 jq37_27 ?_
    cases h1
    exact jw_iret jM37 jq37_28 (fun z => absurd z (by decide)) (k σ s (jb_rn rfl))
  · have h1 := jo_n c1 h
    refine jiL1 (p := 5) rfl jM37 jq37_4 ?_
    refine jaL0 (p := 6) rfl jM37 jq37_5 ?_
    obtain ⟨c2, h2⟩ := jo_i h1
    refine jc_getI (p := 9) (i := 2) rfl jM37 jq37_6 rfl (s.pg c2).ob jn_4_2 s (jc_pgd c2) (by decide) rfl ?_
    refine jw_ic (p := 12) rfl jM37 jq37_9 (jc_ge hl1 (s.r _ _)) (fun c3 => ?_) (fun c3 => ?_)
    · have h3 := jo_p c3 h2
      refine jw_iconst (p := 28) rfl jM37 jq37_27 ?_
      cases h3
      exact jw_iret jM37 jq37_28 (fun z => absurd z (by decide)) (k σ s (jb_rn rfl))
    · have h3 := jo_n c3 h2
      refine jiL1 (p := 13) rfl jM37 jq37_12 ?_
      refine jw_bipush (p := 15) rfl jM37 jq37_13 (by decide) ?_
      refine jw_ic (p := 18) rfl jM37 jq37_15 (jc_ge hl1 (jb_rn rfl)) (fun c4 => ?_) (fun c4 => ?_)
      · have h4 := jo_p c4 h3
        refine jw_iconst (p := 28) rfl jM37 jq37_27 ?_
        cases h4
        exact jw_iret jM37 jq37_28 (fun z => absurd z (by decide)) (k σ s (jb_rn rfl))
      · have h4 := jo_n c4 h3
        refine jaL0 (p := 19) rfl jM37 jq37_18 ?_
        refine jw_getP (p := 22) (i := 3) rfl jM37 jq37_19 rfl (s.pg c2).ob je_4_3 (s.pg c2).pc ?_
        refine jiL1 (p := 23) rfl jM37 jq37_22 ?_
        obtain ⟨c5, h5⟩ := jo_i h4
        refine jc_iald (p := 24) rfl jM37 jq37_23 (s.pg c2).ar c5.1 c5.2 s (jc_pgd1 c2) rfl ?_
        refine jw_goto jM37 jq37_24 ?_
        cases h5
        exact jw_iret jM37 jq37_28 (fun z => absurd z (by decide)) (k σ s (s.r _ _))
-- 38 PageLoom$Page.keyAt need 1
def fc38 (K : jc_K) (l0 : Nat) (l1 : Int) : Option (jc_K × Int) := if jc_pg K l0 then (fc37 K l0 l1).bind fun x2 => if x2.2 = (-1) then (some (x2.1, (-1))) else (if jc_pg (x2.1) l0 then if jc_i (x2.1) l0 0 = 2 then (if 0 ≤ (x2.2) then some (x2.1, (x2.2) / 100) else none) else (if 0 ≤ (x2.2) then some (x2.1, (x2.2) / 1000) else none) else none) else none
theorem jd38 {d : Nat} {σ0 : ib_H} {Q : ib_O → Prop} {K : jc_K} {l0 : Nat} {l1 : Int} (hl1 : jb_r l1) {r : (jc_K × Int)} (h : fc38 K l0 l1 = some r) (k : ∀ σ, jc_S σ0 r.1 σ → jb_r r.2 → Q (.inl (some (jb_v r.2)), σ)) : jc_W σ0 K (d + 1) 38 0 [some (.ref l0), some (jb_v l1), none] [] Q := by
  intro σ s
  unfold fc38 at h
  refine jaL0 (p := 1) rfl jM38 jq38_0 ?_
  refine jiL1 (p := 2) rfl jM38 jq38_1 ?_
  obtain ⟨c1, h1⟩ := jo_i h
  refine jw_callV [(jb_v l1)] jM38 jq38_2 rfl rfl (s.pg c1).ob rfl jM37 rfl rfl ?_
  obtain ⟨x2, b3, h3⟩ := jo_b h1
  refine jd37 hl1 b3 (fun σ2 s2 r2 => ?_) σ s
  show jb_w (d + 1) 38 5 [some (.ref l0), some (jb_v l1), none] [(jb_v (x2.2))] σ2 Q
  refine jiS2 (p := 6) rfl jM38 jq38_5 ?_
  refine jiL2 (p := 7) rfl jM38 jq38_6 ?_
  refine jw_iconst (p := 8) rfl jM38 jq38_7 ?_
  refine jw_ic (p := 11) rfl jM38 jq38_8 (jc_ne r2 (jb_rn rfl)) (fun c4 => ?_) (fun c4 => ?_)
  · have h4 := jo_n c4 h3
    refine jaL0 (p := 14) rfl jM38 jq38_13 ?_
    obtain ⟨c5, h5⟩ := jo_i h4
    refine jc_getI (p := 17) (i := 0) rfl jM38 jq38_14 rfl (s2.pg c5).ob jn_4_0 s2 (jc_pgd c5) (by decide) rfl ?_
    refine jw_iconst (p := 18) rfl jM38 jq38_17 ?_
    refine jw_ic (p := 21) rfl jM38 jq38_18 (jc_ne (s2.r _ _) (jb_rn rfl)) (fun c6 => ?_) (fun c6 => ?_)
    · have h6 := jo_n c6 h5
      refine jiL2 (p := 29) rfl jM38 jq38_28 ?_
      refine jw_sipush (p := 32) rfl jM38 jq38_29 (by decide) ?_
      obtain ⟨c7, h7⟩ := jo_i h6
      refine jw_idiv (p := 33) rfl jM38 jq38_32 c7 r2 (by decide) (jb_rn rfl) ?_
      cases h7
      exact jw_iret jM38 jq38_33 (fun z => absurd z (by decide)) (k σ2 s2 (jb_r_div c7 r2 (by decide)))
    · have h6 := jo_p (Decidable.byContradiction c6) h5
      refine jiL2 (p := 22) rfl jM38 jq38_21 ?_
      refine jw_bipush (p := 24) rfl jM38 jq38_22 (by decide) ?_
      obtain ⟨c8, h8⟩ := jo_i h6
      refine jw_idiv (p := 25) rfl jM38 jq38_24 c8 r2 (by decide) (jb_rn rfl) ?_
      refine jw_goto jM38 jq38_25 ?_
      cases h8
      exact jw_iret jM38 jq38_33 (fun z => absurd z (by decide)) (k σ2 s2 (jb_r_div c8 r2 (by decide)))
  · have h4 := jo_p (Decidable.byContradiction c4) h3
    refine jw_iconst (p := 12) rfl jM38 jq38_11 ?_
    cases h4
    exact jw_iret jM38 jq38_12 (fun z => absurd z (by decide)) (k σ2 s2 (jb_rn rfl))
-- 39 PageLoom$Page.childAt need 1
def fc39 (K : jc_K) (l0 : Nat) (l1 : Int) : Option (jc_K × Int) := if jc_pg K l0 then (fc37 K l0 l1).bind fun x2 => if x2.2 = (-1) then (some (x2.1, (-1))) else (if 0 ≤ (x2.2) then some (x2.1, (x2.2) % 100) else none) else none
theorem jd39 {d : Nat} {σ0 : ib_H} {Q : ib_O → Prop} {K : jc_K} {l0 : Nat} {l1 : Int} (hl1 : jb_r l1) {r : (jc_K × Int)} (h : fc39 K l0 l1 = some r) (k : ∀ σ, jc_S σ0 r.1 σ → jb_r r.2 → Q (.inl (some (jb_v r.2)), σ)) : jc_W σ0 K (d + 1) 39 0 [some (.ref l0), some (jb_v l1), none] [] Q := by
  intro σ s
  unfold fc39 at h
  refine jaL0 (p := 1) rfl jM39 jq39_0 ?_
  refine jiL1 (p := 2) rfl jM39 jq39_1 ?_
  obtain ⟨c1, h1⟩ := jo_i h
  refine jw_callV [(jb_v l1)] jM39 jq39_2 rfl rfl (s.pg c1).ob rfl jM37 rfl rfl ?_
  obtain ⟨x2, b3, h3⟩ := jo_b h1
  refine jd37 hl1 b3 (fun σ2 s2 r2 => ?_) σ s
  show jb_w (d + 1) 39 5 [some (.ref l0), some (jb_v l1), none] [(jb_v (x2.2))] σ2 Q
  refine jiS2 (p := 6) rfl jM39 jq39_5 ?_
  refine jiL2 (p := 7) rfl jM39 jq39_6 ?_
  refine jw_iconst (p := 8) rfl jM39 jq39_7 ?_
  refine jw_ic (p := 11) rfl jM39 jq39_8 (jc_ne r2 (jb_rn rfl)) (fun c4 => ?_) (fun c4 => ?_)
  · have h4 := jo_n c4 h3
    refine jiL2 (p := 16) rfl jM39 jq39_15 ?_
    refine jw_bipush (p := 18) rfl jM39 jq39_16 (by decide) ?_
    obtain ⟨c5, h5⟩ := jo_i h4
    refine jw_irem (p := 19) rfl jM39 jq39_18 c5 r2 (by decide) (jb_rn rfl) ?_
    cases h5
    exact jw_iret jM39 jq39_19 (fun z => absurd z (by decide)) (k σ2 s2 (jb_r_rem c5 r2 (by decide)))
  · have h4 := jo_p (Decidable.byContradiction c4) h3
    refine jw_iconst (p := 12) rfl jM39 jq39_11 ?_
    refine jw_goto jM39 jq39_12 ?_
    cases h4
    exact jw_iret jM39 jq39_19 (fun z => absurd z (by decide)) (k σ2 s2 (jb_rn rfl))
-- 40 PageLoom$Page.childFor need 2
def fc40_4 : Nat → jc_K → Nat → Int → Int → Int → Option (jc_K × Int)
  | 0, _, _, _, _, _ => none
  | m + 1, K, l0, l1, l2, l3 => if jc_pg K l0 then if jc_i K l0 2 ≤ l3 then ((fc39 K l0 l2).bind fun x3 => some (x3.1, x3.2)) else (if 32 ≤ l3 then ((fc39 K l0 l2).bind fun x6 => some (x6.1, x6.2)) else (if 0 ≤ l3 ∧ l3 < 32 then if 0 ≤ (jc_i K (l0 + 1) l3) then if l1 < (jc_i K (l0 + 1) l3) / 100 then (if -2147483648 ≤ (l3 + 1) ∧ (l3 + 1) < 2147483648 then fc40_4 m K l0 l1 l2 (l3 + 1) else none) else (if -2147483648 ≤ (l3 + 1) ∧ (l3 + 1) < 2147483648 then fc40_4 m K l0 l1 l3 (l3 + 1) else none) else none else none)) else none
theorem jd40_4 {d : Nat} {σ0 : ib_H} {Q : ib_O → Prop} : ∀ (m : Nat) {K : jc_K} {l0 : Nat} {l1 : Int} {l2 : Int} {l3 : Int} (hl1 : jb_r l1) (hl2 : jb_r l2) (hl3 : jb_r l3) {r : (jc_K × Int)} (h : fc40_4 m K l0 l1 l2 l3 = some r) (k : ∀ σ, jc_S σ0 r.1 σ → jb_r r.2 → Q (.inl (some (jb_v r.2)), σ)), jc_W σ0 K (d + 2) 40 4 [some (.ref l0), some (jb_v l1), some (jb_v l2), some (jb_v l3)] [] Q := by
  intro m
  induction m with
  | zero =>
    intro K l0 l1 l2 l3 hl1 hl2 hl3 r h k
    cases h
  | succ m ih =>
    intro K l0 l1 l2 l3 hl1 hl2 hl3 r h k σ s
    unfold fc40_4 at h
    refine jiL3 (p := 5) rfl jM40 jq40_4 ?_
    refine jaL0 (p := 6) rfl jM40 jq40_5 ?_
    obtain ⟨c1, h1⟩ := jo_i h
    refine jc_getI (p := 9) (i := 2) rfl jM40 jq40_6 rfl (s.pg c1).ob jn_4_2 s (jc_pgd c1) (by decide) rfl ?_
    refine jw_ic (p := 12) rfl jM40 jq40_9 (jc_ge hl3 (s.r _ _)) (fun c2 => ?_) (fun c2 => ?_)
    · have h2 := jo_p c2 h1
      refine jaL0 (p := 40) rfl jM40 jq40_39 ?_
      refine jiL2 (p := 41) rfl jM40 jq40_40 ?_
      refine jw_callV [(jb_v l2)] jM40 jq40_41 rfl rfl (s.pg c1).ob rfl jM39 rfl rfl ?_
      obtain ⟨x3, b4, h4⟩ := jo_b h2
      refine jd39 hl2 b4 (fun σ3 s3 r3 => ?_) σ s
      show jb_w (d + 2) 40 44 [some (.ref l0), some (jb_v l1), some (jb_v l2), some (jb_v l3)] [(jb_v (x3.2))] σ3 Q
      cases h4
      exact jw_iret jM40 jq40_44 (fun z => absurd z (by decide)) (k σ3 s3 r3)
    · have h2 := jo_n c2 h1
      refine jiL3 (p := 13) rfl jM40 jq40_12 ?_
      refine jw_bipush (p := 15) rfl jM40 jq40_13 (by decide) ?_
      refine jw_ic (p := 18) rfl jM40 jq40_15 (jc_ge hl3 (jb_rn rfl)) (fun c5 => ?_) (fun c5 => ?_)
      · have h5 := jo_p c5 h2
        refine jaL0 (p := 40) rfl jM40 jq40_39 ?_
        refine jiL2 (p := 41) rfl jM40 jq40_40 ?_
        refine jw_callV [(jb_v l2)] jM40 jq40_41 rfl rfl (s.pg c1).ob rfl jM39 rfl rfl ?_
        obtain ⟨x6, b7, h7⟩ := jo_b h5
        refine jd39 hl2 b7 (fun σ6 s6 r6 => ?_) σ s
        show jb_w (d + 2) 40 44 [some (.ref l0), some (jb_v l1), some (jb_v l2), some (jb_v l3)] [(jb_v (x6.2))] σ6 Q
        cases h7
        exact jw_iret jM40 jq40_44 (fun z => absurd z (by decide)) (k σ6 s6 r6)
      · have h5 := jo_n c5 h2
        refine jaL0 (p := 19) rfl jM40 jq40_18 ?_
        refine jw_getP (p := 22) (i := 3) rfl jM40 jq40_19 rfl (s.pg c1).ob je_4_3 (s.pg c1).pc ?_
        refine jiL3 (p := 23) rfl jM40 jq40_22 ?_
        obtain ⟨c8, h8⟩ := jo_i h5
        refine jc_iald (p := 24) rfl jM40 jq40_23 (s.pg c1).ar c8.1 c8.2 s (jc_pgd1 c1) rfl ?_
        refine jw_bipush (p := 26) rfl jM40 jq40_24 (by decide) ?_
        obtain ⟨c9, h9⟩ := jo_i h8
        refine jw_idiv (p := 27) rfl jM40 jq40_26 c9 (s.r _ _) (by decide) (jb_rn rfl) ?_
        refine jiL1 (p := 28) rfl jM40 jq40_27 ?_
        refine jw_ic (p := 31) rfl jM40 jq40_28 (jc_gt (jb_r_div c9 (s.r _ _) (by decide)) hl1) (fun c10 => ?_) (fun c10 => ?_)
        · have h10 := jo_p c10 h9
          refine jiI3 (p := 36) rfl jM40 jq40_33 ?_
          refine jw_goto jM40 jq40_36 ?_
          obtain ⟨c11, h11⟩ := jo_i h10
          exact ih hl1 hl2 c11 h11 k σ s
        · have h10 := jo_n c10 h9
          refine jiL3 (p := 32) rfl jM40 jq40_31 ?_
          refine jiS2 (p := 33) rfl jM40 jq40_32 ?_
          refine jiI3 (p := 36) rfl jM40 jq40_33 ?_
          refine jw_goto jM40 jq40_36 ?_
          obtain ⟨c12, h12⟩ := jo_i h10
          exact ih hl1 hl3 c12 h12 k σ s
def fc40 (K : jc_K) (l0 : Nat) (l1 : Int) : Option (jc_K × Int) := fc40_4 jo_N K l0 l1 0 1
theorem jd40 {d : Nat} {σ0 : ib_H} {Q : ib_O → Prop} {K : jc_K} {l0 : Nat} {l1 : Int} (hl1 : jb_r l1) {r : (jc_K × Int)} (h : fc40 K l0 l1 = some r) (k : ∀ σ, jc_S σ0 r.1 σ → jb_r r.2 → Q (.inl (some (jb_v r.2)), σ)) : jc_W σ0 K (d + 2) 40 0 [some (.ref l0), some (jb_v l1), none, none] [] Q := by
  intro σ s
  unfold fc40 at h
  refine jw_iconst (p := 1) rfl jM40 jq40_0 ?_
  refine jiS2 (p := 2) rfl jM40 jq40_1 ?_
  refine jw_iconst (p := 3) rfl jM40 jq40_2 ?_
  refine jiS3 (p := 4) rfl jM40 jq40_3 ?_
  exact jd40_4 jo_N hl1 (jb_rn rfl) (jb_rn rfl) h k σ s
-- 41 PageLoom$Page.placeOfChild need 0
def fc41_2 : Nat → jc_K → Nat → Int → Int → Option (jc_K × Int)
  | 0, _, _, _, _ => none
  | m + 1, K, l0, l1, l2 => if jc_pg K l0 then if jc_i K l0 2 ≤ l2 then (some (K, (-1))) else (if 32 ≤ l2 then (some (K, (-1))) else (if 0 ≤ l2 ∧ l2 < 32 then if 0 ≤ (jc_i K (l0 + 1) l2) then if (jc_i K (l0 + 1) l2) % 100 = l1 then (some (K, l2)) else (if -2147483648 ≤ (l2 + 1) ∧ (l2 + 1) < 2147483648 then fc41_2 m K l0 l1 (l2 + 1) else none) else none else none)) else none
theorem jd41_2 {d : Nat} {σ0 : ib_H} {Q : ib_O → Prop} : ∀ (m : Nat) {K : jc_K} {l0 : Nat} {l1 : Int} {l2 : Int} (hl1 : jb_r l1) (hl2 : jb_r l2) {r : (jc_K × Int)} (h : fc41_2 m K l0 l1 l2 = some r) (k : ∀ σ, jc_S σ0 r.1 σ → jb_r r.2 → Q (.inl (some (jb_v r.2)), σ)), jc_W σ0 K d 41 2 [some (.ref l0), some (jb_v l1), some (jb_v l2)] [] Q := by
  intro m
  induction m with
  | zero =>
    intro K l0 l1 l2 hl1 hl2 r h k
    cases h
  | succ m ih =>
    intro K l0 l1 l2 hl1 hl2 r h k σ s
    unfold fc41_2 at h
    refine jiL2 (p := 3) rfl jM41 jq41_2 ?_
    refine jaL0 (p := 4) rfl jM41 jq41_3 ?_
    obtain ⟨c1, h1⟩ := jo_i h
    refine jc_getI (p := 7) (i := 2) rfl jM41 jq41_4 rfl (s.pg c1).ob jn_4_2 s (jc_pgd c1) (by decide) rfl ?_
    refine jw_ic (p := 10) rfl jM41 jq41_7 (jc_ge hl2 (s.r _ _)) (fun c2 => ?_) (fun c2 => ?_)
    · have h2 := jo_p c2 h1
      refine jw_iconst (p := 38) rfl jM41 jq41_37 ?_
      cases h2
      exact jw_iret jM41 jq41_38 (fun z => absurd z (by decide)) (k σ s (jb_rn rfl))
    · have h2 := jo_n c2 h1
      refine jiL2 (p := 11) rfl jM41 jq41_10 ?_
      refine jw_bipush (p := 13) rfl jM41 jq41_11 (by decide) ?_
      refine jw_ic (p := 16) rfl jM41 jq41_13 (jc_ge hl2 (jb_rn rfl)) (fun c3 => ?_) (fun c3 => ?_)
      · have h3 := jo_p c3 h2
        refine jw_iconst (p := 38) rfl jM41 jq41_37 ?_
        cases h3
        exact jw_iret jM41 jq41_38 (fun z => absurd z (by decide)) (k σ s (jb_rn rfl))
      · have h3 := jo_n c3 h2
        refine jaL0 (p := 17) rfl jM41 jq41_16 ?_
        refine jw_getP (p := 20) (i := 3) rfl jM41 jq41_17 rfl (s.pg c1).ob je_4_3 (s.pg c1).pc ?_
        refine jiL2 (p := 21) rfl jM41 jq41_20 ?_
        obtain ⟨c4, h4⟩ := jo_i h3
        refine jc_iald (p := 22) rfl jM41 jq41_21 (s.pg c1).ar c4.1 c4.2 s (jc_pgd1 c1) rfl ?_
        refine jw_bipush (p := 24) rfl jM41 jq41_22 (by decide) ?_
        obtain ⟨c5, h5⟩ := jo_i h4
        refine jw_irem (p := 25) rfl jM41 jq41_24 c5 (s.r _ _) (by decide) (jb_rn rfl) ?_
        refine jiL1 (p := 26) rfl jM41 jq41_25 ?_
        refine jw_ic (p := 29) rfl jM41 jq41_26 (jc_ne (jb_r_rem c5 (s.r _ _) (by decide)) hl1) (fun c6 => ?_) (fun c6 => ?_)
        · have h6 := jo_n c6 h5
          refine jiI2 (p := 34) rfl jM41 jq41_31 ?_
          refine jw_goto jM41 jq41_34 ?_
          obtain ⟨c7, h7⟩ := jo_i h6
          exact ih hl1 c7 h7 k σ s
        · have h6 := jo_p (Decidable.byContradiction c6) h5
          refine jiL2 (p := 30) rfl jM41 jq41_29 ?_
          cases h6
          exact jw_iret jM41 jq41_30 (fun z => absurd z (by decide)) (k σ s hl2)
def fc41 (K : jc_K) (l0 : Nat) (l1 : Int) : Option (jc_K × Int) := fc41_2 jo_N K l0 l1 0
theorem jd41 {d : Nat} {σ0 : ib_H} {Q : ib_O → Prop} {K : jc_K} {l0 : Nat} {l1 : Int} (hl1 : jb_r l1) {r : (jc_K × Int)} (h : fc41 K l0 l1 = some r) (k : ∀ σ, jc_S σ0 r.1 σ → jb_r r.2 → Q (.inl (some (jb_v r.2)), σ)) : jc_W σ0 K d 41 0 [some (.ref l0), some (jb_v l1), none] [] Q := by
  intro σ s
  unfold fc41 at h
  refine jw_iconst (p := 1) rfl jM41 jq41_0 ?_
  refine jiS2 (p := 2) rfl jM41 jq41_1 ?_
  exact jd41_2 jo_N hl1 (jb_rn rfl) h k σ s
-- 42 PageLoom$Page.valueOf need 1
def fc42 (K : jc_K) (l0 : Nat) (l1 : Int) : Option (jc_K × Int) := if jc_pg K l0 then (fc44 K l0 l1).bind fun x2 => if jc_pg (x2.1) l0 then (fc37 (x2.1) l0 (x2.2)).bind fun x5 => if x5.2 = (-1) then (some (x5.1, (-1))) else (if 0 ≤ (x5.2) then if (x5.2) / 1000 = l1 then (if 0 ≤ (x5.2) then some (x5.1, (x5.2) % 1000) else none) else (some (x5.1, (-1))) else none) else none else none
theorem jd42 {d : Nat} {σ0 : ib_H} {Q : ib_O → Prop} {K : jc_K} {l0 : Nat} {l1 : Int} (hl1 : jb_r l1) {r : (jc_K × Int)} (h : fc42 K l0 l1 = some r) (k : ∀ σ, jc_S σ0 r.1 σ → jb_r r.2 → Q (.inl (some (jb_v r.2)), σ)) : jc_W σ0 K (d + 1) 42 0 [some (.ref l0), some (jb_v l1), none, none] [] Q := by
  intro σ s
  unfold fc42 at h
  refine jaL0 (p := 1) rfl jM42 jq42_0 ?_
  refine jiL1 (p := 2) rfl jM42 jq42_1 ?_
  obtain ⟨c1, h1⟩ := jo_i h
  refine jw_callV [(jb_v l1)] jM42 jq42_2 rfl rfl (s.pg c1).ob rfl jM44 rfl rfl ?_
  obtain ⟨x2, b3, h3⟩ := jo_b h1
  refine jd44 hl1 b3 (fun σ2 s2 r2 => ?_) σ s
  show jb_w (d + 1) 42 5 [some (.ref l0), some (jb_v l1), none, none] [(jb_v (x2.2))] σ2 Q
  refine jiS2 (p := 6) rfl jM42 jq42_5 ?_
  refine jaL0 (p := 7) rfl jM42 jq42_6 ?_
  refine jiL2 (p := 8) rfl jM42 jq42_7 ?_
  obtain ⟨c4, h4⟩ := jo_i h3
  refine jw_callV [(jb_v (x2.2))] jM42 jq42_8 rfl rfl (s2.pg c4).ob rfl jM37 rfl rfl ?_
  obtain ⟨x5, b6, h6⟩ := jo_b h4
  refine jd37 r2 b6 (fun σ5 s5 r5 => ?_) σ2 s2
  show jb_w (d + 1) 42 11 [some (.ref l0), some (jb_v l1), some (jb_v (x2.2)), none] [(jb_v (x5.2))] σ5 Q
  refine jiS3 (p := 12) rfl jM42 jq42_11 ?_
  refine jiL3 (p := 13) rfl jM42 jq42_12 ?_
  refine jw_iconst (p := 14) rfl jM42 jq42_13 ?_
  refine jw_ic (p := 17) rfl jM42 jq42_14 (jc_eq r5 (jb_rn rfl)) (fun c7 => ?_) (fun c7 => ?_)
  · have h7 := jo_p c7 h6
    refine jw_iconst (p := 35) rfl jM42 jq42_34 ?_
    cases h7
    exact jw_iret jM42 jq42_35 (fun z => absurd z (by decide)) (k σ5 s5 (jb_rn rfl))
  · have h7 := jo_n c7 h6
    refine jiL3 (p := 18) rfl jM42 jq42_17 ?_
    refine jw_sipush (p := 21) rfl jM42 jq42_18 (by decide) ?_
    obtain ⟨c8, h8⟩ := jo_i h7
    refine jw_idiv (p := 22) rfl jM42 jq42_21 c8 r5 (by decide) (jb_rn rfl) ?_
    refine jiL1 (p := 23) rfl jM42 jq42_22 ?_
    refine jw_ic (p := 26) rfl jM42 jq42_23 (jc_ne (jb_r_div c8 r5 (by decide)) hl1) (fun c9 => ?_) (fun c9 => ?_)
    · have h9 := jo_n c9 h8
      refine jw_iconst (p := 35) rfl jM42 jq42_34 ?_
      cases h9
      exact jw_iret jM42 jq42_35 (fun z => absurd z (by decide)) (k σ5 s5 (jb_rn rfl))
    · have h9 := jo_p (Decidable.byContradiction c9) h8
      refine jiL3 (p := 27) rfl jM42 jq42_26 ?_
      refine jw_sipush (p := 30) rfl jM42 jq42_27 (by decide) ?_
      obtain ⟨c10, h10⟩ := jo_i h9
      refine jw_irem (p := 31) rfl jM42 jq42_30 c10 r5 (by decide) (jb_rn rfl) ?_
      refine jw_goto jM42 jq42_31 ?_
      cases h10
      exact jw_iret jM42 jq42_35 (fun z => absurd z (by decide)) (k σ5 s5 (jb_r_rem c10 r5 (by decide)))
-- 49 PageLoom$Page.forgetKeyAheadOfFirst need 0
def fc49 (K : jc_K) (l0 : Nat) : Option (jc_K × Int) := if jc_pg K l0 then if jc_i K l0 0 = 2 then (if jc_i K l0 2 ≤ 0 then (some (K, 0)) else (if 0 ≤ (jc_i K (l0 + 1) 0) then some (jc_ui K (l0 + 1) 0 ((jc_i K (l0 + 1) 0) % 100), 0) else none)) else (some (K, 0)) else none
theorem jd49 {d : Nat} {σ0 : ib_H} {Q : ib_O → Prop} {K : jc_K} {l0 : Nat} {r : (jc_K × Int)} (h : fc49 K l0 = some r) (k : ∀ σ, jc_S σ0 r.1 σ → Q (.inl none, σ)) : jc_W σ0 K d 49 0 [some (.ref l0)] [] Q := by
  intro σ s
  unfold fc49 at h
  refine jaL0 (p := 1) rfl jM49 jq49_0 ?_
  obtain ⟨c1, h1⟩ := jo_i h
  refine jc_getI (p := 4) (i := 0) rfl jM49 jq49_1 rfl (s.pg c1).ob jn_4_0 s (jc_pgd c1) (by decide) rfl ?_
  refine jw_iconst (p := 5) rfl jM49 jq49_4 ?_
  refine jw_ic (p := 8) rfl jM49 jq49_5 (jc_ne (s.r _ _) (jb_rn rfl)) (fun c2 => ?_) (fun c2 => ?_)
  · have h2 := jo_n c2 h1
    cases h2
    exact jw_vret jM49 jq49_30 (k σ s)
  · have h2 := jo_p (Decidable.byContradiction c2) h1
    refine jaL0 (p := 9) rfl jM49 jq49_8 ?_
    refine jc_getI (p := 12) (i := 2) rfl jM49 jq49_9 rfl (s.pg c1).ob jn_4_2 s (jc_pgd c1) (by decide) rfl ?_
    refine jw_if (p := 15) rfl jM49 jq49_12 (jc_le (s.r _ _) jb_r0) (fun c3 => ?_) (fun c3 => ?_)
    · have h3 := jo_p c3 h2
      cases h3
      exact jw_vret jM49 jq49_30 (k σ s)
    · have h3 := jo_n c3 h2
      refine jaL0 (p := 16) rfl jM49 jq49_15 ?_
      refine jw_getP (p := 19) (i := 3) rfl jM49 jq49_16 rfl (s.pg c1).ob je_4_3 (s.pg c1).pc ?_
      refine jw_iconst (p := 20) rfl jM49 jq49_19 ?_
      refine jaL0 (p := 21) rfl jM49 jq49_20 ?_
      refine jw_getP (p := 24) (i := 3) rfl jM49 jq49_21 rfl (s.pg c1).ob je_4_3 (s.pg c1).pc ?_
      refine jw_iconst (p := 25) rfl jM49 jq49_24 ?_
      refine jc_iald (p := 26) rfl jM49 jq49_25 (s.pg c1).ar (by decide) (by decide) s (jc_pgd1 c1) rfl ?_
      refine jw_bipush (p := 28) rfl jM49 jq49_26 (by decide) ?_
      obtain ⟨c4, h4⟩ := jo_i h3
      refine jw_irem (p := 29) rfl jM49 jq49_28 c4 (s.r _ _) (by decide) (jb_rn rfl) ?_
      refine jc_iast (p := 30) rfl jM49 jq49_29 (s.pg c1).ar (by decide) (by decide) s (jc_pgd1 c1) (jb_r_rem c4 (s.r _ _) (by decide)) ?_
      intro σ5 s5
      cases h4
      exact jw_vret jM49 jq49_30 (k σ5 s5)
-- 47 PageLoom$Page.becomePart need 1
def fc47_16 : Nat → jc_K → Nat → Nat → Int → Int → Int → Option (jc_K × Int)
  | 0, _, _, _, _, _, _ => none
  | m + 1, K, l0, l1, l2, l3, l4 => if l4 < 0 then (if jc_pg K l0 then (fc49 K l0).bind fun x3 => some (x3.1, 0) else none) else (if l3 ≤ l4 then (if jc_pg K l0 then (fc49 K l0).bind fun x7 => some (x7.1, 0) else none) else (if jc_pg K l1 then if jc_i K l1 2 ≤ l4 then (if jc_pg K l0 then (fc49 K l0).bind fun x12 => some (x12.1, 0) else none) else (if 32 ≤ l4 then (if jc_pg K l0 then (fc49 K l0).bind fun x16 => some (x16.1, 0) else none) else (if jc_pg K l0 then if 0 ≤ l4 ∧ l4 < 32 then if 0 ≤ (jc_i K l0 2) ∧ (jc_i K l0 2) < 32 then if -2147483648 ≤ ((jc_i K l0 2) + 1) ∧ ((jc_i K l0 2) + 1) < 2147483648 then if -2147483648 ≤ (l4 + 1) ∧ (l4 + 1) < 2147483648 then fc47_16 m (jc_ui (jc_ui K (l0 + 1) (jc_i K l0 2) (jc_i K (l1 + 1) l4)) l0 2 ((jc_i K l0 2) + 1)) l0 l1 l2 l3 (l4 + 1) else none else none else none else none else none)) else none))
theorem jd47_16 {d : Nat} {σ0 : ib_H} {Q : ib_O → Prop} : ∀ (m : Nat) {K : jc_K} {l0 : Nat} {l1 : Nat} {l2 : Int} {l3 : Int} {l4 : Int} (hl2 : jb_r l2) (hl3 : jb_r l3) (hl4 : jb_r l4) {r : (jc_K × Int)} (h : fc47_16 m K l0 l1 l2 l3 l4 = some r) (k : ∀ σ, jc_S σ0 r.1 σ → Q (.inl none, σ)), jc_W σ0 K (d + 1) 47 16 [some (.ref l0), some (.ref l1), some (jb_v l2), some (jb_v l3), some (jb_v l4)] [] Q := by
  intro m
  induction m with
  | zero =>
    intro K l0 l1 l2 l3 l4 hl2 hl3 hl4 r h k
    cases h
  | succ m ih =>
    intro K l0 l1 l2 l3 l4 hl2 hl3 hl4 r h k σ s
    unfold fc47_16 at h
    refine jiL4 (p := 18) rfl jM47 jq47_16 ?_
    refine jw_if (p := 21) rfl jM47 jq47_18 (jc_lt hl4 jb_r0) (fun c1 => ?_) (fun c1 => ?_)
    · have h1 := jo_p c1 h
      refine jaL0 (p := 76) rfl jM47 jq47_75 ?_
      obtain ⟨c2, h2⟩ := jo_i h1
      refine jw_callV [] jM47 jq47_76 rfl rfl (s.pg c2).ob rfl jM49 rfl rfl ?_
      obtain ⟨x3, b4, h4⟩ := jo_b h2
      refine jd49  b4 (fun σ3 s3 => ?_) σ s
      show jb_w (d + 1) 47 79 [some (.ref l0), some (.ref l1), some (jb_v l2), some (jb_v l3), some (jb_v l4)] [] σ3 Q
      cases h4
      exact jw_vret jM47 jq47_79 (k σ3 s3)
    · have h1 := jo_n c1 h
      refine jiL4 (p := 23) rfl jM47 jq47_21 ?_
      refine jiL3 (p := 24) rfl jM47 jq47_23 ?_
      refine jw_ic (p := 27) rfl jM47 jq47_24 (jc_ge hl4 hl3) (fun c5 => ?_) (fun c5 => ?_)
      · have h5 := jo_p c5 h1
        refine jaL0 (p := 76) rfl jM47 jq47_75 ?_
        obtain ⟨c6, h6⟩ := jo_i h5
        refine jw_callV [] jM47 jq47_76 rfl rfl (s.pg c6).ob rfl jM49 rfl rfl ?_
        obtain ⟨x7, b8, h8⟩ := jo_b h6
        refine jd49  b8 (fun σ7 s7 => ?_) σ s
        show jb_w (d + 1) 47 79 [some (.ref l0), some (.ref l1), some (jb_v l2), some (jb_v l3), some (jb_v l4)] [] σ7 Q
        cases h8
        exact jw_vret jM47 jq47_79 (k σ7 s7)
      · have h5 := jo_n c5 h1
        refine jiL4 (p := 29) rfl jM47 jq47_27 ?_
        refine jaL1 (p := 30) rfl jM47 jq47_29 ?_
        obtain ⟨c9, h9⟩ := jo_i h5
        refine jc_getI (p := 33) (i := 2) rfl jM47 jq47_30 rfl (s.pg c9).ob jn_4_2 s (jc_pgd c9) (by decide) rfl ?_
        refine jw_ic (p := 36) rfl jM47 jq47_33 (jc_ge hl4 (s.r _ _)) (fun c10 => ?_) (fun c10 => ?_)
        · have h10 := jo_p c10 h9
          refine jaL0 (p := 76) rfl jM47 jq47_75 ?_
          obtain ⟨c11, h11⟩ := jo_i h10
          refine jw_callV [] jM47 jq47_76 rfl rfl (s.pg c11).ob rfl jM49 rfl rfl ?_
          obtain ⟨x12, b13, h13⟩ := jo_b h11
          refine jd49  b13 (fun σ12 s12 => ?_) σ s
          show jb_w (d + 1) 47 79 [some (.ref l0), some (.ref l1), some (jb_v l2), some (jb_v l3), some (jb_v l4)] [] σ12 Q
          cases h13
          exact jw_vret jM47 jq47_79 (k σ12 s12)
        · have h10 := jo_n c10 h9
          refine jiL4 (p := 38) rfl jM47 jq47_36 ?_
          refine jw_bipush (p := 40) rfl jM47 jq47_38 (by decide) ?_
          refine jw_ic (p := 43) rfl jM47 jq47_40 (jc_ge hl4 (jb_rn rfl)) (fun c14 => ?_) (fun c14 => ?_)
          · have h14 := jo_p c14 h10
            refine jaL0 (p := 76) rfl jM47 jq47_75 ?_
            obtain ⟨c15, h15⟩ := jo_i h14
            refine jw_callV [] jM47 jq47_76 rfl rfl (s.pg c15).ob rfl jM49 rfl rfl ?_
            obtain ⟨x16, b17, h17⟩ := jo_b h15
            refine jd49  b17 (fun σ16 s16 => ?_) σ s
            show jb_w (d + 1) 47 79 [some (.ref l0), some (.ref l1), some (jb_v l2), some (jb_v l3), some (jb_v l4)] [] σ16 Q
            cases h17
            exact jw_vret jM47 jq47_79 (k σ16 s16)
          · have h14 := jo_n c14 h10
            refine jaL0 (p := 44) rfl jM47 jq47_43 ?_
            obtain ⟨c18, h18⟩ := jo_i h14
            refine jw_getP (p := 47) (i := 3) rfl jM47 jq47_44 rfl (s.pg c18).ob je_4_3 (s.pg c18).pc ?_
            refine jaL0 (p := 48) rfl jM47 jq47_47 ?_
            refine jc_getI (p := 51) (i := 2) rfl jM47 jq47_48 rfl (s.pg c18).ob jn_4_2 s (jc_pgd c18) (by decide) rfl ?_
            refine jaL1 (p := 52) rfl jM47 jq47_51 ?_
            refine jw_getP (p := 55) (i := 3) rfl jM47 jq47_52 rfl (s.pg c9).ob je_4_3 (s.pg c9).pc ?_
            refine jiL4 (p := 57) rfl jM47 jq47_55 ?_
            obtain ⟨c19, h19⟩ := jo_i h18
            refine jc_iald (p := 58) rfl jM47 jq47_57 (s.pg c9).ar c19.1 c19.2 s (jc_pgd1 c9) rfl ?_
            obtain ⟨c20, h20⟩ := jo_i h19
            refine jc_iast (p := 59) rfl jM47 jq47_58 (s.pg c18).ar c20.1 c20.2 s (jc_pgd1 c18) (s.r _ _) ?_
            intro σ21 s21
            refine jaL0 (p := 60) rfl jM47 jq47_59 ?_
            refine jw_dupA (p := 61) rfl jM47 jq47_60 ?_
            refine jc_getI (p := 64) (i := 2) rfl jM47 jq47_61 rfl (s21.pg c18).ob jn_4_2 s21 (jc_pgd c18) (by decide) (jc_uN (by omega)) ?_
            refine jw_iconst (p := 65) rfl jM47 jq47_64 ?_
            refine jw_iadd (p := 66) rfl jM47 jq47_65 ?_
            obtain ⟨c22, h22⟩ := jo_i h20
            refine jc_putI (p := 69) (i := 2) rfl jM47 jq47_66 rfl (s21.pg c18).ob (Or.inl jz_4_2) s21 (jc_pgd c18) (by decide) c22 ?_
            intro σ23 s23
            refine jiI4 (p := 72) rfl jM47 jq47_69 ?_
            refine jw_goto jM47 jq47_72 ?_
            obtain ⟨c24, h24⟩ := jo_i h22
            exact ih hl2 hl3 c24 h24 k σ23 s23
def fc47 (K : jc_K) (l0 : Nat) (l1 : Nat) (l2 : Int) (l3 : Int) : Option (jc_K × Int) := if jc_pg K l1 then if jc_pg K l0 then fc47_16 jo_N (jc_ui (jc_ui K l0 0 (jc_i K l1 0)) l0 2 0) l0 l1 l2 l3 l2 else none else none
theorem jd47 {d : Nat} {σ0 : ib_H} {Q : ib_O → Prop} {K : jc_K} {l0 : Nat} {l1 : Nat} {l2 : Int} {l3 : Int} (hl2 : jb_r l2) (hl3 : jb_r l3) {r : (jc_K × Int)} (h : fc47 K l0 l1 l2 l3 = some r) (k : ∀ σ, jc_S σ0 r.1 σ → Q (.inl none, σ)) : jc_W σ0 K (d + 1) 47 0 [some (.ref l0), some (.ref l1), some (jb_v l2), some (jb_v l3), none] [] Q := by
  intro σ s
  unfold fc47 at h
  refine jaL0 (p := 1) rfl jM47 jq47_0 ?_
  refine jaL1 (p := 2) rfl jM47 jq47_1 ?_
  obtain ⟨c1, h1⟩ := jo_i h
  refine jc_getI (p := 5) (i := 0) rfl jM47 jq47_2 rfl (s.pg c1).ob jn_4_0 s (jc_pgd c1) (by decide) rfl ?_
  obtain ⟨c2, h2⟩ := jo_i h1
  refine jc_putI (p := 8) (i := 0) rfl jM47 jq47_5 rfl (s.pg c2).ob (Or.inl jz_4_0) s (jc_pgd c2) (by decide) (s.r _ _) ?_
  intro σ3 s3
  refine jaL0 (p := 9) rfl jM47 jq47_8 ?_
  refine jw_iconst (p := 10) rfl jM47 jq47_9 ?_
  refine jc_putI (p := 13) (i := 2) rfl jM47 jq47_10 rfl (s3.pg c2).ob (Or.inl jz_4_2) s3 (jc_pgd c2) (by decide) (jb_rn rfl) ?_
  intro σ4 s4
  refine jiL2 (p := 14) rfl jM47 jq47_13 ?_
  refine jiS4 (p := 16) rfl jM47 jq47_14 ?_
  exact jd47_16 jo_N hl2 hl3 hl2 h2 k σ4 s4
-- 48 PageLoom$Page.removeChild need 1
def fc48 (K : jc_K) (l0 : Nat) (l1 : Int) : Option (jc_K × Int) := if jc_pg K l0 then (fc41 K l0 l1).bind fun x2 => if jc_pg (x2.1) l0 then (fc46 (x2.1) l0 (x2.2)).bind fun x5 => if jc_pg (x5.1) l0 then (fc49 (x5.1) l0).bind fun x8 => some (x8.1, 0) else none else none else none
theorem jd48 {d : Nat} {σ0 : ib_H} {Q : ib_O → Prop} {K : jc_K} {l0 : Nat} {l1 : Int} (hl1 : jb_r l1) {r : (jc_K × Int)} (h : fc48 K l0 l1 = some r) (k : ∀ σ, jc_S σ0 r.1 σ → Q (.inl none, σ)) : jc_W σ0 K (d + 1) 48 0 [some (.ref l0), some (jb_v l1)] [] Q := by
  intro σ s
  unfold fc48 at h
  refine jaL0 (p := 1) rfl jM48 jq48_0 ?_
  refine jaL0 (p := 2) rfl jM48 jq48_1 ?_
  refine jiL1 (p := 3) rfl jM48 jq48_2 ?_
  obtain ⟨c1, h1⟩ := jo_i h
  refine jw_callV [(jb_v l1)] jM48 jq48_3 rfl rfl (s.pg c1).ob rfl jM41 rfl rfl ?_
  obtain ⟨x2, b3, h3⟩ := jo_b h1
  refine jd41 hl1 b3 (fun σ2 s2 r2 => ?_) σ s
  show jb_w (d + 1) 48 6 [some (.ref l0), some (jb_v l1)] [(jb_v (x2.2)), (.ref l0)] σ2 Q
  obtain ⟨c4, h4⟩ := jo_i h3
  refine jw_callV [(jb_v (x2.2))] jM48 jq48_6 rfl rfl (s2.pg c4).ob rfl jM46 rfl rfl ?_
  obtain ⟨x5, b6, h6⟩ := jo_b h4
  refine jd46 r2 b6 (fun σ5 s5 => ?_) σ2 s2
  show jb_w (d + 1) 48 9 [some (.ref l0), some (jb_v l1)] [] σ5 Q
  refine jaL0 (p := 10) rfl jM48 jq48_9 ?_
  obtain ⟨c7, h7⟩ := jo_i h6
  refine jw_callV [] jM48 jq48_10 rfl rfl (s5.pg c7).ob rfl jM49 rfl rfl ?_
  obtain ⟨x8, b9, h9⟩ := jo_b h7
  refine jd49  b9 (fun σ8 s8 => ?_) σ5 s5
  show jb_w (d + 1) 48 13 [some (.ref l0), some (jb_v l1)] [] σ8 Q
  cases h9
  exact jw_vret jM48 jq48_13 (k σ8 s8)
