/-! the class as functions: written by wip/tools/genc.py (gc1.py) -/
-- 92 PageLoom$Undoing.goBack need 5
def fc92_s : Nat → Nat → jc_K → Int → Int → Int → Int → Nat → Int → Int → Option (jc_K × Int)
  | 0, _, _, _, _, _, _, _, _, _ => none
  | m + 1, t, K, l1, l2, l3, l4, l5, l6, l7 => if t = 7 then (if 1104 ≤ l3 then (some (K, 1)) else ((fc93 K l1).bind fun x2 => if x2.2 = (-1) then (some (x2.1, 1)) else (if 0 ≤ (x2.2) ∧ (x2.2) < 4 then if jc_i (x2.1) 82 (x2.2) ≤ l1 then (if l2 = 0 then (if -2147483648 ≤ (l3 + 1) ∧ (l3 + 1) < 2147483648 then fc92_s m 7 (jc_ui (x2.1) 82 (x2.2) (-1)) l1 l2 (l3 + 1) 0 0 0 0 else none) else ((fc96 (jc_ui (x2.1) 82 (x2.2) (-1)) (x2.2)).bind fun x10 => if x10.2 = 0 then (some (x10.1, 0)) else (if -2147483648 ≤ (l3 + 1) ∧ (l3 + 1) < 2147483648 then fc92_s m 7 (x10.1) l1 l2 (l3 + 1) 0 0 0 0 else none))) else ((fc19 (x2.1) (jc_i (x2.1) 82 (x2.2))).bind fun x14 => if x14.2 = 0 then (if l2 = 0 then (if -2147483648 ≤ (l3 + 1) ∧ (l3 + 1) < 2147483648 then fc92_s m 7 (jc_ui (x14.1) 82 (x2.2) (-1)) l1 l2 (l3 + 1) 0 0 0 0 else none) else ((fc96 (jc_ui (x14.1) 82 (x2.2) (-1)) (x2.2)).bind fun x35 => if x35.2 = 0 then (some (x35.1, 0)) else (if -2147483648 ≤ (l3 + 1) ∧ (l3 + 1) < 2147483648 then fc92_s m 7 (x35.1) l1 l2 (l3 + 1) 0 0 0 0 else none))) else ((fc94 (x14.1) (x14.2)).bind fun x17 => if jc_rc (x17.1) (x14.2) then if jc_i (jc_ui (x17.1) 82 (x2.2) (x17.2)) (x14.2) 1 = 0 then ((fc71 (jc_ui (x17.1) 82 (x2.2) (x17.2)) (jc_i (jc_ui (x17.1) 82 (x2.2) (x17.2)) (x14.2) 3)).bind fun x22 => if x22.2 = 0 then (fc92_s m 163 (x22.1) l1 l2 l3 (x2.2) (x14.2) 0 0) else ((fc95 (x22.1) (x14.2)).bind fun x25 => if x25.2 = 0 then (fc92_s m 163 (x25.1) l1 l2 l3 (x2.2) (x14.2) 0 0) else ((fc80 (x25.1) (jc_i (x25.1) 63 4)).bind fun x28 => if x28.2 = 0 then (fc92_s m 163 (x28.1) l1 l2 l3 (x2.2) (x14.2) 0 0) else (fc92_s m 163 (x28.1) l1 l2 l3 (x2.2) (x14.2) 1 0)))) else (if -2147483648 ≤ (l3 + 1) ∧ (l3 + 1) < 2147483648 then fc92_s m 7 (jc_ui (x17.1) 82 (x2.2) (x17.2)) l1 l2 (l3 + 1) 0 0 0 0 else none) else none)) else none))) else if t = 163 then (if 24 ≤ l7 then (if l6 = 0 then (some (K, 0)) else (if -2147483648 ≤ ((jc_i K 81 4) + 1) ∧ ((jc_i K 81 4) + 1) < 2147483648 then if -2147483648 ≤ (l3 + 1) ∧ (l3 + 1) < 2147483648 then fc92_s m 7 (jc_ui K 81 4 ((jc_i K 81 4) + 1)) l1 l2 (l3 + 1) 0 0 0 0 else none else none)) else (if l6 = 0 then (some (K, 0)) else ((fc81 K ).bind fun x45 => if x45.2 = 0 then (if -2147483648 ≤ ((jc_i (x45.1) 81 4) + 1) ∧ ((jc_i (x45.1) 81 4) + 1) < 2147483648 then if -2147483648 ≤ (l3 + 1) ∧ (l3 + 1) < 2147483648 then fc92_s m 7 (jc_ui (x45.1) 81 4 ((jc_i (x45.1) 81 4) + 1)) l1 l2 (l3 + 1) 0 0 0 0 else none else none) else ((fc70 (x45.1) ).bind fun x51 => (fc82 (x51.1) ).bind fun x53 => (fc83 (x53.1) (x51.2) (x53.2)).bind fun x55 => if -2147483648 ≤ (l7 + 1) ∧ (l7 + 1) < 2147483648 then fc92_s m 163 (x55.1) l1 l2 l3 l4 l5 (x55.2) (l7 + 1) else none)))) else none
theorem jd92_s {d : Nat} {σ0 : ib_H} {Q : ib_O → Prop} : ∀ (m : Nat), (∀ {K : jc_K} {l1 : Int} {l2 : Int} {l3 : Int} {o4 : Option Value} {o5 : Option Value} {o6 : Option Value} {o7 : Option Value} {o8 : Option Value} (hl1 : jb_r l1) (hl2 : jb_r l2) (hl3 : jb_r l3) {r : (jc_K × Int)} (h : fc92_s m 7 K l1 l2 l3 0 0 0 0 = some r) (k : ∀ σ, jc_S σ0 r.1 σ → jb_r r.2 → Q (.inl (some (jb_v r.2)), σ)), jc_W σ0 K (d + 5) 92 7 [some (.ref 81), some (jb_v l1), some (jb_v l2), some (jb_v l3), o4, o5, o6, o7, o8] [] Q) ∧ (∀ {K : jc_K} {l1 : Int} {l2 : Int} {l3 : Int} {l4 : Int} {l5 : Nat} {l6 : Int} {l7 : Int} {o8 : Option Value} (hl1 : jb_r l1) (hl2 : jb_r l2) (hl3 : jb_r l3) (hl4 : jb_r l4) (hl6 : jb_r l6) (hl7 : jb_r l7) {r : (jc_K × Int)} (h : fc92_s m 163 K l1 l2 l3 l4 l5 l6 l7 = some r) (k : ∀ σ, jc_S σ0 r.1 σ → jb_r r.2 → Q (.inl (some (jb_v r.2)), σ)), jc_W σ0 K (d + 5) 92 163 [some (.ref 81), some (jb_v l1), some (jb_v l2), some (jb_v l3), some (jb_v l4), some (.ref l5), some (jb_v l6), some (jb_v l7), o8] [] Q) := by
  intro m
  induction m with
  | zero =>
    refine ⟨?_, ?_⟩
    · intro K l1 l2 l3 o4 o5 o6 o7 o8 hl1 hl2 hl3 r h k
      cases h
    · intro K l1 l2 l3 l4 l5 l6 l7 o8 hl1 hl2 hl3 hl4 hl6 hl7 r h k
      cases h
  | succ m ih =>
    refine ⟨?_, ?_⟩
    · intro K l1 l2 l3 o4 o5 o6 o7 o8 hl1 hl2 hl3 r h k σ s
      unfold fc92_s at h
      have h := jo_p rfl (h)
      refine jiL3 (p := 8) rfl jM92 jq92_7 ?_
      refine jw_sipush (p := 11) rfl jM92 jq92_8 (by decide) ?_
      refine jw_ic (p := 14) rfl jM92 jq92_11 (jc_ge hl3 (jb_rn rfl)) (fun c1 => ?_) (fun c1 => ?_)
      · have h1 := jo_p c1 h
        refine jw_iconst (p := 242) rfl jM92 jq92_241 ?_
        cases h1
        exact jw_iret jM92 jq92_242 (fun _ => Or.inr rfl) (k σ s (jb_rn rfl))
      · have h1 := jo_n c1 h
        refine jaL0 (p := 15) rfl jM92 jq92_14 ?_
        refine jiL1 (p := 16) rfl jM92 jq92_15 ?_
        refine jw_callV [(jb_v l1)] jM92 jq92_16 rfl rfl (jo_81 s.1) rfl jM93 rfl rfl ?_
        obtain ⟨x2, b3, h3⟩ := jo_b h1
        refine jd93 hl1 b3 (fun σ2 s2 r2 => ?_) σ s
        show jb_w (d + 5) 92 19 [some (.ref 81), some (jb_v l1), some (jb_v l2), some (jb_v l3), o4, o5, o6, o7, o8] [(jb_v (x2.2))] σ2 Q
        refine jiS4 (p := 21) rfl jM92 jq92_19 ?_
        refine jiL4 (p := 23) rfl jM92 jq92_21 ?_
        refine jw_iconst (p := 24) rfl jM92 jq92_23 ?_
        refine jw_ic (p := 27) rfl jM92 jq92_24 (jc_ne r2 (jb_rn rfl)) (fun c4 => ?_) (fun c4 => ?_)
        · have h4 := jo_n c4 h3
          refine jaL0 (p := 30) rfl jM92 jq92_29 ?_
          refine jw_getP (p := 33) (i := 3) (q := 82) rfl jM92 jq92_30 rfl (jo_81 s2.1) je_8_3 (jp_81_3 s2.1) ?_
          refine jiL4 (p := 35) rfl jM92 jq92_33 ?_
          obtain ⟨c5, h5⟩ := jo_i h4
          refine jc_iald (p := 36) rfl jM92 jq92_35 (ja_82 s2.1) c5.1 c5.2 s2 (by decide) rfl ?_
          refine jiL1 (p := 37) rfl jM92 jq92_36 ?_
          refine jw_ic (p := 40) rfl jM92 jq92_37 (jc_le (s2.r _ _) hl1) (fun c6 => ?_) (fun c6 => ?_)
          · have h6 := jo_p c6 h5
            refine jw_null (p := 58) rfl jM92 jq92_57 ?_
            refine jaS5 (p := 60) rfl jM92 jq92_58 ?_
            refine jaL5 (p := 62) rfl jM92 jq92_60 ?_
            refine jw_ifnonnull (p := 65) rfl jM92 jq92_62 (fun z => absurd rfl z) (fun _ => ?_)
            refine jaL0 (p := 66) rfl jM92 jq92_65 ?_
            refine jw_getP (p := 69) (i := 3) (q := 82) rfl jM92 jq92_66 rfl (jo_81 s2.1) je_8_3 (jp_81_3 s2.1) ?_
            refine jiL4 (p := 71) rfl jM92 jq92_69 ?_
            refine jw_iconst (p := 72) rfl jM92 jq92_71 ?_
            refine jc_iast (p := 73) rfl jM92 jq92_72 (ja_82 s2.1) c5.1 c5.2 s2 (by decide) (jb_rn rfl) ?_
            intro σ7 s7
            refine jiL2 (p := 74) rfl jM92 jq92_73 ?_
            refine jw_if (p := 77) rfl jM92 jq92_74 (jc_eq hl2 jb_r0) (fun c8 => ?_) (fun c8 => ?_)
            · have h8 := jo_p c8 h6
              refine jiI3 (p := 238) rfl jM92 jq92_235 ?_
              refine jw_goto jM92 jq92_238 ?_
              obtain ⟨c9, h9⟩ := jo_i h8
              exact ih.1 hl1 hl2 c9 h9 k σ7 s7
            · have h8 := jo_n c8 h6
              refine jaL0 (p := 78) rfl jM92 jq92_77 ?_
              refine jiL4 (p := 80) rfl jM92 jq92_78 ?_
              refine jw_callV [(jb_v (x2.2))] jM92 jq92_80 rfl rfl (jo_81 s7.1) rfl jM96 rfl rfl ?_
              obtain ⟨x10, b11, h11⟩ := jo_b h8
              refine jd96 r2 b11 (fun σ10 s10 r10 => ?_) σ7 s7
              show jb_w (d + 5) 92 83 [some (.ref 81), some (jb_v l1), some (jb_v l2), some (jb_v l3), some (jb_v (x2.2)), some (.ref 0), o6, o7, o8] [(jb_v (x10.2))] σ10 Q
              refine jw_if (p := 86) rfl jM92 jq92_83 (jc_ne r10 jb_r0) (fun c12 => ?_) (fun c12 => ?_)
              · have h12 := jo_n c12 h11
                refine jiI3 (p := 238) rfl jM92 jq92_235 ?_
                refine jw_goto jM92 jq92_238 ?_
                obtain ⟨c13, h13⟩ := jo_i h12
                exact ih.1 hl1 hl2 c13 h13 k σ10 s10
              · have h12 := jo_p (Decidable.byContradiction c12) h11
                refine jw_iconst (p := 87) rfl jM92 jq92_86 ?_
                cases h12
                exact jw_iret jM92 jq92_87 (fun _ => Or.inl rfl) (k σ10 s10 (jb_rn rfl))
          · have h6 := jo_n c6 h5
            refine jaL0 (p := 41) rfl jM92 jq92_40 ?_
            refine jw_getP (p := 44) (i := 1) (q := 63) rfl jM92 jq92_41 rfl (jo_81 s2.1) je_8_1 (jp_81_1 s2.1) ?_
            refine jaL0 (p := 45) rfl jM92 jq92_44 ?_
            refine jw_getP (p := 48) (i := 3) (q := 82) rfl jM92 jq92_45 rfl (jo_81 s2.1) je_8_3 (jp_81_3 s2.1) ?_
            refine jiL4 (p := 50) rfl jM92 jq92_48 ?_
            refine jc_iald (p := 51) rfl jM92 jq92_50 (ja_82 s2.1) c5.1 c5.2 s2 (by decide) rfl ?_
            refine jw_callV [(jb_v (jc_i (x2.1) 82 (x2.2)))] jM92 jq92_51 rfl rfl (jo_63 s2.1) rfl jM19 rfl rfl ?_
            obtain ⟨x14, b15, h15⟩ := jo_b h6
            refine jd19 (s2.r _ _) b15 (fun σ14 s14 => ?_) σ2 s2
            show jb_w (d + 5) 92 54 [some (.ref 81), some (jb_v l1), some (jb_v l2), some (jb_v l3), some (jb_v (x2.2)), o5, o6, o7, o8] [(.ref (x14.2))] σ14 Q
            refine jw_goto jM92 jq92_54 ?_
            refine jaS5 (p := 60) rfl jM92 jq92_58 ?_
            refine jaL5 (p := 62) rfl jM92 jq92_60 ?_
            refine jw_ifnonnull (p := 65) rfl jM92 jq92_62 (fun c16 => ?_) (fun c16 => ?_)
            · have h16 := jo_n c16 h15
              refine jaL0 (p := 89) rfl jM92 jq92_88 ?_
              refine jw_getP (p := 92) (i := 3) (q := 82) rfl jM92 jq92_89 rfl (jo_81 s14.1) je_8_3 (jp_81_3 s14.1) ?_
              refine jiL4 (p := 94) rfl jM92 jq92_92 ?_
              refine jaL0 (p := 95) rfl jM92 jq92_94 ?_
              refine jaL5 (p := 97) rfl jM92 jq92_95 ?_
              refine jw_callV [(.ref (x14.2))] jM92 jq92_97 rfl rfl (jo_81 s14.1) rfl jM94 rfl rfl ?_
              obtain ⟨x17, b18, h18⟩ := jo_b h16
              refine jd94  b18 (fun σ17 s17 r17 => ?_) σ14 s14
              show jb_w (d + 5) 92 100 [some (.ref 81), some (jb_v l1), some (jb_v l2), some (jb_v l3), some (jb_v (x2.2)), some (.ref (x14.2)), o6, o7, o8] [(jb_v (x17.2)), (jb_v (x2.2)), (.ref 82)] σ17 Q
              refine jc_iast (p := 101) rfl jM92 jq92_100 (ja_82 s17.1) c5.1 c5.2 s17 (by decide) r17 ?_
              intro σ19 s19
              refine jaL5 (p := 103) rfl jM92 jq92_101 ?_
              obtain ⟨c20, h20⟩ := jo_i h18
              refine jc_getI (p := 106) (i := 1) rfl jM92 jq92_103 rfl (s19.rc c20).ob jn_3_1 s19 (jc_rcd c20) (by decide) rfl ?_
              refine jw_if (p := 109) rfl jM92 jq92_106 (jc_eq (s19.r _ _) jb_r0) (fun c21 => ?_) (fun c21 => ?_)
              · have h21 := jo_p c21 h20
                refine jaL0 (p := 113) rfl jM92 jq92_112 ?_
                refine jw_getP (p := 116) (i := 0) (q := 79) rfl jM92 jq92_113 rfl (jo_81 s19.1) je_8_0 (jp_81_0 s19.1) ?_
                refine jaL5 (p := 118) rfl jM92 jq92_116 ?_
                refine jc_getI (p := 121) (i := 3) rfl jM92 jq92_118 rfl (s19.rc c20).ob jn_3_3 s19 (jc_rcd c20) (by decide) rfl ?_
                refine jw_callV [(jb_v (jc_i (jc_ui (x17.1) 82 (x2.2) (x17.2)) (x14.2) 3))] jM92 jq92_121 rfl rfl (jo_79 s19.1) rfl jM71 rfl rfl ?_
                obtain ⟨x22, b23, h23⟩ := jo_b h21
                refine jd71 (s19.r _ _) b23 (fun σ22 s22 r22 => ?_) σ19 s19
                show jb_w (d + 5) 92 124 [some (.ref 81), some (jb_v l1), some (jb_v l2), some (jb_v l3), some (jb_v (x2.2)), some (.ref (x14.2)), o6, o7, o8] [(jb_v (x22.2))] σ22 Q
                refine jw_if (p := 127) rfl jM92 jq92_124 (jc_eq r22 jb_r0) (fun c24 => ?_) (fun c24 => ?_)
                · have h24 := jo_p c24 h23
                  refine jw_iconst (p := 158) rfl jM92 jq92_157 ?_
                  refine jiS6 (p := 160) rfl jM92 jq92_158 ?_
                  refine jw_iconst (p := 161) rfl jM92 jq92_160 ?_
                  refine jiS7 (p := 163) rfl jM92 jq92_161 ?_
                  exact ih.2 hl1 hl2 hl3 r2 (jb_rn rfl) (jb_rn rfl) h24 k σ22 s22
                · have h24 := jo_n c24 h23
                  refine jaL0 (p := 128) rfl jM92 jq92_127 ?_
                  refine jaL5 (p := 130) rfl jM92 jq92_128 ?_
                  refine jw_callV [(.ref (x14.2))] jM92 jq92_130 rfl rfl (jo_81 s22.1) rfl jM95 rfl rfl ?_
                  obtain ⟨x25, b26, h26⟩ := jo_b h24
                  refine jd95  b26 (fun σ25 s25 r25 => ?_) σ22 s22
                  show jb_w (d + 5) 92 133 [some (.ref 81), some (jb_v l1), some (jb_v l2), some (jb_v l3), some (jb_v (x2.2)), some (.ref (x14.2)), o6, o7, o8] [(jb_v (x25.2))] σ25 Q
                  refine jw_if (p := 136) rfl jM92 jq92_133 (jc_eq r25 jb_r0) (fun c27 => ?_) (fun c27 => ?_)
                  · have h27 := jo_p c27 h26
                    refine jw_iconst (p := 158) rfl jM92 jq92_157 ?_
                    refine jiS6 (p := 160) rfl jM92 jq92_158 ?_
                    refine jw_iconst (p := 161) rfl jM92 jq92_160 ?_
                    refine jiS7 (p := 163) rfl jM92 jq92_161 ?_
                    exact ih.2 hl1 hl2 hl3 r2 (jb_rn rfl) (jb_rn rfl) h27 k σ25 s25
                  · have h27 := jo_n c27 h26
                    refine jaL0 (p := 137) rfl jM92 jq92_136 ?_
                    refine jw_getP (p := 140) (i := 0) (q := 79) rfl jM92 jq92_137 rfl (jo_81 s25.1) je_8_0 (jp_81_0 s25.1) ?_
                    refine jaL0 (p := 141) rfl jM92 jq92_140 ?_
                    refine jw_getP (p := 144) (i := 1) (q := 63) rfl jM92 jq92_141 rfl (jo_81 s25.1) je_8_1 (jp_81_1 s25.1) ?_
                    refine jc_getI (p := 147) (i := 4) rfl jM92 jq92_144 rfl (jo_63 s25.1) jn_2_4 s25 (by decide) (by decide) rfl ?_
                    refine jw_callV [(jb_v (jc_i (x25.1) 63 4))] jM92 jq92_147 rfl rfl (jo_79 s25.1) rfl jM80 rfl rfl ?_
                    obtain ⟨x28, b29, h29⟩ := jo_b h27
                    refine jd80 (s25.r _ _) b29 (fun σ28 s28 r28 => ?_) σ25 s25
                    show jb_w (d + 5) 92 150 [some (.ref 81), some (jb_v l1), some (jb_v l2), some (jb_v l3), some (jb_v (x2.2)), some (.ref (x14.2)), o6, o7, o8] [(jb_v (x28.2))] σ28 Q
                    refine jw_if (p := 153) rfl jM92 jq92_150 (jc_eq r28 jb_r0) (fun c30 => ?_) (fun c30 => ?_)
                    · have h30 := jo_p c30 h29
                      refine jw_iconst (p := 158) rfl jM92 jq92_157 ?_
                      refine jiS6 (p := 160) rfl jM92 jq92_158 ?_
                      refine jw_iconst (p := 161) rfl jM92 jq92_160 ?_
                      refine jiS7 (p := 163) rfl jM92 jq92_161 ?_
                      exact ih.2 hl1 hl2 hl3 r2 (jb_rn rfl) (jb_rn rfl) h30 k σ28 s28
                    · have h30 := jo_n c30 h29
                      refine jw_iconst (p := 154) rfl jM92 jq92_153 ?_
                      refine jw_goto jM92 jq92_154 ?_
                      refine jiS6 (p := 160) rfl jM92 jq92_158 ?_
                      refine jw_iconst (p := 161) rfl jM92 jq92_160 ?_
                      refine jiS7 (p := 163) rfl jM92 jq92_161 ?_
                      exact ih.2 hl1 hl2 hl3 r2 (jb_rn rfl) (jb_rn rfl) h30 k σ28 s28
              · have h21 := jo_n c21 h20
                refine jw_goto jM92 jq92_109 ?_
                refine jiI3 (p := 238) rfl jM92 jq92_235 ?_
                refine jw_goto jM92 jq92_238 ?_
                obtain ⟨c31, h31⟩ := jo_i h21
                exact ih.1 hl1 hl2 c31 h31 k σ19 s19
            · have h16 := jo_p c16 h15
              refine jaL0 (p := 66) rfl jM92 jq92_65 ?_
              refine jw_getP (p := 69) (i := 3) (q := 82) rfl jM92 jq92_66 rfl (jo_81 s14.1) je_8_3 (jp_81_3 s14.1) ?_
              refine jiL4 (p := 71) rfl jM92 jq92_69 ?_
              refine jw_iconst (p := 72) rfl jM92 jq92_71 ?_
              refine jc_iast (p := 73) rfl jM92 jq92_72 (ja_82 s14.1) c5.1 c5.2 s14 (by decide) (jb_rn rfl) ?_
              intro σ32 s32
              refine jiL2 (p := 74) rfl jM92 jq92_73 ?_
              refine jw_if (p := 77) rfl jM92 jq92_74 (jc_eq hl2 jb_r0) (fun c33 => ?_) (fun c33 => ?_)
              · have h33 := jo_p c33 h16
                refine jiI3 (p := 238) rfl jM92 jq92_235 ?_
                refine jw_goto jM92 jq92_238 ?_
                obtain ⟨c34, h34⟩ := jo_i h33
                exact ih.1 hl1 hl2 c34 h34 k σ32 s32
              · have h33 := jo_n c33 h16
                refine jaL0 (p := 78) rfl jM92 jq92_77 ?_
                refine jiL4 (p := 80) rfl jM92 jq92_78 ?_
                refine jw_callV [(jb_v (x2.2))] jM92 jq92_80 rfl rfl (jo_81 s32.1) rfl jM96 rfl rfl ?_
                obtain ⟨x35, b36, h36⟩ := jo_b h33
                refine jd96 r2 b36 (fun σ35 s35 r35 => ?_) σ32 s32
                show jb_w (d + 5) 92 83 [some (.ref 81), some (jb_v l1), some (jb_v l2), some (jb_v l3), some (jb_v (x2.2)), some (.ref (x14.2)), o6, o7, o8] [(jb_v (x35.2))] σ35 Q
                refine jw_if (p := 86) rfl jM92 jq92_83 (jc_ne r35 jb_r0) (fun c37 => ?_) (fun c37 => ?_)
                · have h37 := jo_n c37 h36
                  refine jiI3 (p := 238) rfl jM92 jq92_235 ?_
                  refine jw_goto jM92 jq92_238 ?_
                  obtain ⟨c38, h38⟩ := jo_i h37
                  exact ih.1 hl1 hl2 c38 h38 k σ35 s35
                · have h37 := jo_p (Decidable.byContradiction c37) h36
                  refine jw_iconst (p := 87) rfl jM92 jq92_86 ?_
                  cases h37
                  exact jw_iret jM92 jq92_87 (fun _ => Or.inl rfl) (k σ35 s35 (jb_rn rfl))
        · have h4 := jo_p (Decidable.byContradiction c4) h3
          refine jw_iconst (p := 28) rfl jM92 jq92_27 ?_
          cases h4
          exact jw_iret jM92 jq92_28 (fun _ => Or.inr rfl) (k σ2 s2 (jb_rn rfl))
    · intro K l1 l2 l3 l4 l5 l6 l7 o8 hl1 hl2 hl3 hl4 hl6 hl7 r h k σ s
      unfold fc92_s at h
      have h := jo_p rfl (jo_n (by decide) (h))
      refine jiL7 (p := 165) rfl jM92 jq92_163 ?_
      refine jw_bipush (p := 167) rfl jM92 jq92_165 (by decide) ?_
      refine jw_ic (p := 170) rfl jM92 jq92_167 (jc_ge hl7 (jb_rn rfl)) (fun c39 => ?_) (fun c39 => ?_)
      · have h39 := jo_p c39 h
        refine jiL6 (p := 220) rfl jM92 jq92_218 ?_
        refine jw_if (p := 223) rfl jM92 jq92_220 (jc_ne hl6 jb_r0) (fun c40 => ?_) (fun c40 => ?_)
        · have h40 := jo_n c40 h39
          refine jaL0 (p := 226) rfl jM92 jq92_225 ?_
          refine jw_dupA (p := 227) rfl jM92 jq92_226 ?_
          refine jc_getI (p := 230) (i := 4) rfl jM92 jq92_227 rfl (jo_81 s.1) jn_8_4 s (by decide) (by decide) rfl ?_
          refine jw_iconst (p := 231) rfl jM92 jq92_230 ?_
          refine jw_iadd (p := 232) rfl jM92 jq92_231 ?_
          obtain ⟨c41, h41⟩ := jo_i h40
          refine jc_putI (p := 235) (i := 4) rfl jM92 jq92_232 rfl (jo_81 s.1) (Or.inl jz_8_4) s (by decide) (by decide) c41 ?_
          intro σ42 s42
          refine jiI3 (p := 238) rfl jM92 jq92_235 ?_
          refine jw_goto jM92 jq92_238 ?_
          obtain ⟨c43, h43⟩ := jo_i h41
          exact ih.1 hl1 hl2 c43 h43 k σ42 s42
        · have h40 := jo_p (Decidable.byContradiction c40) h39
          refine jw_iconst (p := 224) rfl jM92 jq92_223 ?_
          cases h40
          exact jw_iret jM92 jq92_224 (fun _ => Or.inl rfl) (k σ s (jb_rn rfl))
      · have h39 := jo_n c39 h
        refine jiL6 (p := 172) rfl jM92 jq92_170 ?_
        refine jw_if (p := 175) rfl jM92 jq92_172 (jc_eq hl6 jb_r0) (fun c44 => ?_) (fun c44 => ?_)
        · have h44 := jo_p c44 h39
          refine jiL6 (p := 220) rfl jM92 jq92_218 ?_
          refine jw_if (p := 223) rfl jM92 jq92_220 (jc_ne hl6 jb_r0) (fun z => absurd c44 z) (fun _ => ?_)
          refine jw_iconst (p := 224) rfl jM92 jq92_223 ?_
          cases h44
          exact jw_iret jM92 jq92_224 (fun _ => Or.inl rfl) (k σ s (jb_rn rfl))
        · have h44 := jo_n c44 h39
          refine jaL0 (p := 176) rfl jM92 jq92_175 ?_
          refine jw_getP (p := 179) (i := 0) (q := 79) rfl jM92 jq92_176 rfl (jo_81 s.1) je_8_0 (jp_81_0 s.1) ?_
          refine jw_callV [] jM92 jq92_179 rfl rfl (jo_79 s.1) rfl jM81 rfl rfl ?_
          obtain ⟨x45, b46, h46⟩ := jo_b h44
          refine jd81  b46 (fun σ45 s45 r45 => ?_) σ s
          show jb_w (d + 5) 92 182 [some (.ref 81), some (jb_v l1), some (jb_v l2), some (jb_v l3), some (jb_v l4), some (.ref l5), some (jb_v l6), some (jb_v l7), o8] [(jb_v (x45.2))] σ45 Q
          refine jw_if (p := 185) rfl jM92 jq92_182 (jc_eq r45 jb_r0) (fun c47 => ?_) (fun c47 => ?_)
          · have h47 := jo_p c47 h46
            refine jiL6 (p := 220) rfl jM92 jq92_218 ?_
            refine jw_if (p := 223) rfl jM92 jq92_220 (jc_ne hl6 jb_r0) (fun _ => ?_) (fun z => absurd c44 z)
            refine jaL0 (p := 226) rfl jM92 jq92_225 ?_
            refine jw_dupA (p := 227) rfl jM92 jq92_226 ?_
            refine jc_getI (p := 230) (i := 4) rfl jM92 jq92_227 rfl (jo_81 s45.1) jn_8_4 s45 (by decide) (by decide) rfl ?_
            refine jw_iconst (p := 231) rfl jM92 jq92_230 ?_
            refine jw_iadd (p := 232) rfl jM92 jq92_231 ?_
            obtain ⟨c48, h48⟩ := jo_i h47
            refine jc_putI (p := 235) (i := 4) rfl jM92 jq92_232 rfl (jo_81 s45.1) (Or.inl jz_8_4) s45 (by decide) (by decide) c48 ?_
            intro σ49 s49
            refine jiI3 (p := 238) rfl jM92 jq92_235 ?_
            refine jw_goto jM92 jq92_238 ?_
            obtain ⟨c50, h50⟩ := jo_i h48
            exact ih.1 hl1 hl2 c50 h50 k σ49 s49
          · have h47 := jo_n c47 h46
            refine jaL0 (p := 186) rfl jM92 jq92_185 ?_
            refine jw_getP (p := 189) (i := 0) (q := 79) rfl jM92 jq92_186 rfl (jo_81 s45.1) je_8_0 (jp_81_0 s45.1) ?_
            refine jw_callV [] jM92 jq92_189 rfl rfl (jo_79 s45.1) rfl jM70 rfl rfl ?_
            obtain ⟨x51, b52, h52⟩ := jo_b h47
            refine jd70  b52 (fun σ51 s51 r51 => ?_) σ45 s45
            show jb_w (d + 5) 92 192 [some (.ref 81), some (jb_v l1), some (jb_v l2), some (jb_v l3), some (jb_v l4), some (.ref l5), some (jb_v l6), some (jb_v l7), o8] [(jb_v (x51.2))] σ51 Q
            refine jiS8 (p := 194) rfl jM92 jq92_192 ?_
            refine jaL0 (p := 195) rfl jM92 jq92_194 ?_
            refine jw_getP (p := 198) (i := 0) (q := 79) rfl jM92 jq92_195 rfl (jo_81 s51.1) je_8_0 (jp_81_0 s51.1) ?_
            refine jiL8 (p := 200) rfl jM92 jq92_198 ?_
            refine jaL0 (p := 201) rfl jM92 jq92_200 ?_
            refine jw_getP (p := 204) (i := 0) (q := 79) rfl jM92 jq92_201 rfl (jo_81 s51.1) je_8_0 (jp_81_0 s51.1) ?_
            refine jw_callV [] jM92 jq92_204 rfl rfl (jo_79 s51.1) rfl jM82 rfl rfl ?_
            obtain ⟨x53, b54, h54⟩ := jo_b h52
            refine jd82  b54 (fun σ53 s53 r53 => ?_) σ51 s51
            show jb_w (d + 5) 92 207 [some (.ref 81), some (jb_v l1), some (jb_v l2), some (jb_v l3), some (jb_v l4), some (.ref l5), some (jb_v l6), some (jb_v l7), some (jb_v (x51.2))] [(jb_v (x53.2)), (jb_v (x51.2)), (.ref 79)] σ53 Q
            refine jw_callV [(jb_v (x51.2)), (jb_v (x53.2))] jM92 jq92_207 rfl rfl (jo_79 s53.1) rfl jM83 rfl rfl ?_
            obtain ⟨x55, b56, h56⟩ := jo_b h54
            refine jd83 r51 r53 b56 (fun σ55 s55 r55 => ?_) σ53 s53
            show jb_w (d + 5) 92 210 [some (.ref 81), some (jb_v l1), some (jb_v l2), some (jb_v l3), some (jb_v l4), some (.ref l5), some (jb_v l6), some (jb_v l7), some (jb_v (x51.2))] [(jb_v (x55.2))] σ55 Q
            refine jiS6 (p := 212) rfl jM92 jq92_210 ?_
            refine jiI7 (p := 215) rfl jM92 jq92_212 ?_
            refine jw_goto jM92 jq92_215 ?_
            obtain ⟨c57, h57⟩ := jo_i h56
            exact ih.2 hl1 hl2 hl3 hl4 r55 c57 h57 k σ55 s55

def fc92 (K : jc_K) (l1 : Int) (l2 : Int) : Option (jc_K × Int) := fc92_s jo_N 7 (jc_ui K 81 4 0) l1 l2 0 0 0 0 0
theorem jd92 {d : Nat} {σ0 : ib_H} {Q : ib_O → Prop} {K : jc_K} {l1 : Int} {l2 : Int} (hl1 : jb_r l1) (hl2 : jb_r l2) {r : (jc_K × Int)} (h : fc92 K l1 l2 = some r) (k : ∀ σ, jc_S σ0 r.1 σ → jb_r r.2 → Q (.inl (some (jb_v r.2)), σ)) : jc_W σ0 K (d + 5) 92 0 [some (.ref 81), some (jb_v l1), some (jb_v l2), none, none, none, none, none, none] [] Q := by
  intro σ s
  unfold fc92 at h
  refine jaL0 (p := 1) rfl jM92 jq92_0 ?_
  refine jw_iconst (p := 2) rfl jM92 jq92_1 ?_
  refine jc_putI (p := 5) (i := 4) rfl jM92 jq92_2 rfl (jo_81 s.1) (Or.inl jz_8_4) s (by decide) (by decide) (jb_rn rfl) ?_
  intro σ1 s1
  refine jw_iconst (p := 6) rfl jM92 jq92_5 ?_
  refine jiS3 (p := 7) rfl jM92 jq92_6 ?_
  exact (jd92_s jo_N).1 hl1 hl2 (jb_rn rfl) h k σ1 s1
-- 99 PageLoom$Walk.leafOf need 3
def fc99_4 : Nat → jc_K → Int → Int → Int → Option (jc_K × Nat)
  | 0, _, _, _, _ => none
  | m + 1, K, l1, l2, l3 => if 24 ≤ l3 then (some (K, 0)) else ((fc3 K l2).bind fun x2 => if x2.2 = 0 then (some (x2.1, 0)) else (if jc_pg (x2.1) (x2.2) then if jc_i (x2.1) (x2.2) 0 = 0 then (some (x2.1, 0)) else (if jc_i (x2.1) (x2.2) 0 = 1 then (some (x2.1, x2.2)) else ((fc40 (x2.1) (x2.2) l1).bind fun x8 => if -2147483648 ≤ (l3 + 1) ∧ (l3 + 1) < 2147483648 then fc99_4 m (x8.1) l1 (x8.2) (l3 + 1) else none)) else none))
theorem jd99_4 {d : Nat} {σ0 : ib_H} {Q : ib_O → Prop} : ∀ (m : Nat) {K : jc_K} {l1 : Int} {l2 : Int} {l3 : Int} {o4 : Option Value} (hl1 : jb_r l1) (hl2 : jb_r l2) (hl3 : jb_r l3) {r : (jc_K × Nat)} (h : fc99_4 m K l1 l2 l3 = some r) (k : ∀ σ, jc_S σ0 r.1 σ → Q (.inl (some (.ref r.2)), σ)), jc_W σ0 K (d + 3) 99 4 [some (.ref 86), some (jb_v l1), some (jb_v l2), some (jb_v l3), o4] [] Q := by
  intro m
  induction m with
  | zero =>
    intro K l1 l2 l3 o4 hl1 hl2 hl3 r h k
    cases h
  | succ m ih =>
    intro K l1 l2 l3 o4 hl1 hl2 hl3 r h k σ s
    unfold fc99_4 at h
    refine jiL3 (p := 5) rfl jM99 jq99_4 ?_
    refine jw_bipush (p := 7) rfl jM99 jq99_5 (by decide) ?_
    refine jw_ic (p := 10) rfl jM99 jq99_7 (jc_ge hl3 (jb_rn rfl)) (fun c1 => ?_) (fun c1 => ?_)
    · have h1 := jo_p c1 h
      refine jw_null (p := 61) rfl jM99 jq99_60 ?_
      cases h1
      exact jw_aret jM99 jq99_61 (k σ s)
    · have h1 := jo_n c1 h
      refine jaL0 (p := 11) rfl jM99 jq99_10 ?_
      refine jw_getP (p := 14) (i := 0) (q := 66) rfl jM99 jq99_11 rfl (jo_86 s.1) je_9_0 (jp_86_0 s.1) ?_
      refine jiL2 (p := 15) rfl jM99 jq99_14 ?_
      refine jw_callV [(jb_v l2)] jM99 jq99_15 rfl rfl (jo_66 s.1) rfl jM3 rfl rfl ?_
      obtain ⟨x2, b3, h3⟩ := jo_b h1
      refine jd3 hl2 b3 (fun σ2 s2 => ?_) σ s
      show jb_w (d + 3) 99 18 [some (.ref 86), some (jb_v l1), some (jb_v l2), some (jb_v l3), o4] [(.ref (x2.2))] σ2 Q
      refine jaS4 (p := 20) rfl jM99 jq99_18 ?_
      refine jaL4 (p := 22) rfl jM99 jq99_20 ?_
      refine jw_ifnull (p := 25) rfl jM99 jq99_22 (fun c4 => ?_) (fun c4 => ?_)
      · have h4 := jo_p c4 h3
        refine jw_null (p := 34) rfl jM99 jq99_33 ?_
        cases h4
        exact jw_aret jM99 jq99_34 (k σ2 s2)
      · have h4 := jo_n c4 h3
        refine jaL4 (p := 27) rfl jM99 jq99_25 ?_
        obtain ⟨c5, h5⟩ := jo_i h4
        refine jc_getI (p := 30) (i := 0) rfl jM99 jq99_27 rfl (s2.pg c5).ob jn_4_0 s2 (jc_pgd c5) (by decide) rfl ?_
        refine jw_if (p := 33) rfl jM99 jq99_30 (jc_ne (s2.r _ _) jb_r0) (fun c6 => ?_) (fun c6 => ?_)
        · have h6 := jo_n c6 h5
          refine jaL4 (p := 37) rfl jM99 jq99_35 ?_
          refine jc_getI (p := 40) (i := 0) rfl jM99 jq99_37 rfl (s2.pg c5).ob jn_4_0 s2 (jc_pgd c5) (by decide) rfl ?_
          refine jw_iconst (p := 41) rfl jM99 jq99_40 ?_
          refine jw_ic (p := 44) rfl jM99 jq99_41 (jc_ne (s2.r _ _) (jb_rn rfl)) (fun c7 => ?_) (fun c7 => ?_)
          · have h7 := jo_n c7 h6
            refine jaL4 (p := 49) rfl jM99 jq99_47 ?_
            refine jiL1 (p := 50) rfl jM99 jq99_49 ?_
            refine jw_callV [(jb_v l1)] jM99 jq99_50 rfl rfl (s2.pg c5).ob rfl jM40 rfl rfl ?_
            obtain ⟨x8, b9, h9⟩ := jo_b h7
            refine jd40 hl1 b9 (fun σ8 s8 r8 => ?_) σ2 s2
            show jb_w (d + 3) 99 53 [some (.ref 86), some (jb_v l1), some (jb_v l2), some (jb_v l3), some (.ref (x2.2))] [(jb_v (x8.2))] σ8 Q
            refine jiS2 (p := 54) rfl jM99 jq99_53 ?_
            refine jiI3 (p := 57) rfl jM99 jq99_54 ?_
            refine jw_goto jM99 jq99_57 ?_
            obtain ⟨c10, h10⟩ := jo_i h9
            exact ih hl1 r8 c10 h10 k σ8 s8
          · have h7 := jo_p (Decidable.byContradiction c7) h6
            refine jaL4 (p := 46) rfl jM99 jq99_44 ?_
            cases h7
            exact jw_aret jM99 jq99_46 (k σ2 s2)
        · have h6 := jo_p (Decidable.byContradiction c6) h5
          refine jw_null (p := 34) rfl jM99 jq99_33 ?_
          cases h6
          exact jw_aret jM99 jq99_34 (k σ2 s2)
def fc99 (K : jc_K) (l1 : Int) : Option (jc_K × Nat) := fc99_4 jo_N K l1 0 0
theorem jd99 {d : Nat} {σ0 : ib_H} {Q : ib_O → Prop} {K : jc_K} {l1 : Int} (hl1 : jb_r l1) {r : (jc_K × Nat)} (h : fc99 K l1 = some r) (k : ∀ σ, jc_S σ0 r.1 σ → Q (.inl (some (.ref r.2)), σ)) : jc_W σ0 K (d + 3) 99 0 [some (.ref 86), some (jb_v l1), none, none, none] [] Q := by
  intro σ s
  unfold fc99 at h
  refine jw_iconst (p := 1) rfl jM99 jq99_0 ?_
  refine jiS2 (p := 2) rfl jM99 jq99_1 ?_
  refine jw_iconst (p := 3) rfl jM99 jq99_2 ?_
  refine jiS3 (p := 4) rfl jM99 jq99_3 ?_
  exact jd99_4 jo_N hl1 (jb_rn rfl) (jb_rn rfl) h k σ s
-- 98 PageLoom$Walk.agreesWithLog need 4
def fc98_10 : Nat → jc_K → Int → Option (jc_K × Int)
  | 0, _, _ => none
  | m + 1, K, l2 => if 32 ≤ l2 then (some (K, 1)) else (if 0 ≤ l2 ∧ l2 < 32 then if jc_i K 62 l2 = (-1) then ((fc99 K l2).bind fun x5 => if x5.2 = 0 then (some (x5.1, 0)) else (if jc_pg (x5.1) (x5.2) then (fc42 (x5.1) (x5.2) l2).bind fun x9 => if x9.2 = jc_i (x9.1) 65 l2 then (if -2147483648 ≤ (l2 + 1) ∧ (l2 + 1) < 2147483648 then fc98_10 m (x9.1) (l2 + 1) else none) else (some (x9.1, 0)) else none)) else (if -2147483648 ≤ (l2 + 1) ∧ (l2 + 1) < 2147483648 then fc98_10 m K (l2 + 1) else none) else none)
theorem jd98_10 {d : Nat} {σ0 : ib_H} {Q : ib_O → Prop} : ∀ (m : Nat) {K : jc_K} {l2 : Int} {o3 : Option Value} (hl2 : jb_r l2) {r : (jc_K × Int)} (h : fc98_10 m K l2 = some r) (k : ∀ σ, jc_S σ0 r.1 σ → jb_r r.2 → Q (.inl (some (jb_v r.2)), σ)), jc_W σ0 K (d + 4) 98 10 [some (.ref 86), some (.ref 65), some (jb_v l2), o3] [] Q := by
  intro m
  induction m with
  | zero =>
    intro K l2 o3 hl2 r h k
    cases h
  | succ m ih =>
    intro K l2 o3 hl2 r h k σ s
    unfold fc98_10 at h
    refine jiL2 (p := 11) rfl jM98 jq98_10 ?_
    refine jw_bipush (p := 13) rfl jM98 jq98_11 (by decide) ?_
    refine jw_ic (p := 16) rfl jM98 jq98_13 (jc_ge hl2 (jb_rn rfl)) (fun c1 => ?_) (fun c1 => ?_)
    · have h1 := jo_p c1 h
      refine jw_iconst (p := 59) rfl jM98 jq98_58 ?_
      cases h1
      exact jw_iret jM98 jq98_59 (fun _ => Or.inr rfl) (k σ s (jb_rn rfl))
    · have h1 := jo_n c1 h
      refine jaL0 (p := 17) rfl jM98 jq98_16 ?_
      refine jw_getP (p := 20) (i := 2) (q := 57) rfl jM98 jq98_17 rfl (jo_86 s.1) je_9_2 (jp_86_2 s.1) ?_
      refine jw_getP (p := 23) (i := 4) (q := 62) rfl jM98 jq98_20 rfl (jo_57 s.1) je_6_4 (jp_57_4 s.1) ?_
      refine jiL2 (p := 24) rfl jM98 jq98_23 ?_
      obtain ⟨c2, h2⟩ := jo_i h1
      refine jc_iald (p := 25) rfl jM98 jq98_24 (ja_62 s.1) c2.1 c2.2 s (by decide) rfl ?_
      refine jw_iconst (p := 26) rfl jM98 jq98_25 ?_
      refine jw_ic (p := 29) rfl jM98 jq98_26 (jc_ne (s.r _ _) (jb_rn rfl)) (fun c3 => ?_) (fun c3 => ?_)
      · have h3 := jo_n c3 h2
        refine jiI2 (p := 55) rfl jM98 jq98_52 ?_
        refine jw_goto jM98 jq98_55 ?_
        obtain ⟨c4, h4⟩ := jo_i h3
        exact ih c4 h4 k σ s
      · have h3 := jo_p (Decidable.byContradiction c3) h2
        refine jaL0 (p := 30) rfl jM98 jq98_29 ?_
        refine jiL2 (p := 31) rfl jM98 jq98_30 ?_
        refine jw_callV [(jb_v l2)] jM98 jq98_31 rfl rfl (jo_86 s.1) rfl jM99 rfl rfl ?_
        obtain ⟨x5, b6, h6⟩ := jo_b h3
        refine jd99 hl2 b6 (fun σ5 s5 => ?_) σ s
        show jb_w (d + 4) 98 34 [some (.ref 86), some (.ref 65), some (jb_v l2), o3] [(.ref (x5.2))] σ5 Q
        refine jaS3 (p := 35) rfl jM98 jq98_34 ?_
        refine jaL3 (p := 36) rfl jM98 jq98_35 ?_
        refine jw_ifnull (p := 39) rfl jM98 jq98_36 (fun c7 => ?_) (fun c7 => ?_)
        · have h7 := jo_p c7 h6
          refine jw_iconst (p := 51) rfl jM98 jq98_50 ?_
          cases h7
          exact jw_iret jM98 jq98_51 (fun _ => Or.inl rfl) (k σ5 s5 (jb_rn rfl))
        · have h7 := jo_n c7 h6
          refine jaL3 (p := 40) rfl jM98 jq98_39 ?_
          refine jiL2 (p := 41) rfl jM98 jq98_40 ?_
          obtain ⟨c8, h8⟩ := jo_i h7
          refine jw_callV [(jb_v l2)] jM98 jq98_41 rfl rfl (s5.pg c8).ob rfl jM42 rfl rfl ?_
          obtain ⟨x9, b10, h10⟩ := jo_b h8
          refine jd42 hl2 b10 (fun σ9 s9 r9 => ?_) σ5 s5
          show jb_w (d + 4) 98 44 [some (.ref 86), some (.ref 65), some (jb_v l2), some (.ref (x5.2))] [(jb_v (x9.2))] σ9 Q
          refine jaL1 (p := 45) rfl jM98 jq98_44 ?_
          refine jiL2 (p := 46) rfl jM98 jq98_45 ?_
          refine jc_iald (p := 47) rfl jM98 jq98_46 (ja_65 s9.1) c2.1 c2.2 s9 (by decide) rfl ?_
          refine jw_ic (p := 50) rfl jM98 jq98_47 (jc_eq r9 (s9.r _ _)) (fun c11 => ?_) (fun c11 => ?_)
          · have h11 := jo_p c11 h10
            refine jiI2 (p := 55) rfl jM98 jq98_52 ?_
            refine jw_goto jM98 jq98_55 ?_
            obtain ⟨c12, h12⟩ := jo_i h11
            exact ih c12 h12 k σ9 s9
          · have h11 := jo_n c11 h10
            refine jw_iconst (p := 51) rfl jM98 jq98_50 ?_
            cases h11
            exact jw_iret jM98 jq98_51 (fun _ => Or.inl rfl) (k σ9 s9 (jb_rn rfl))
def fc98 (K : jc_K) : Option (jc_K × Int) := (fc22 K ).bind fun x1 => fc98_10 jo_N (x1.1) 0
theorem jd98 {d : Nat} {σ0 : ib_H} {Q : ib_O → Prop} {K : jc_K} {r : (jc_K × Int)} (h : fc98 K  = some r) (k : ∀ σ, jc_S σ0 r.1 σ → jb_r r.2 → Q (.inl (some (jb_v r.2)), σ)) : jc_W σ0 K (d + 4) 98 0 [some (.ref 86), none, none, none] [] Q := by
  intro σ s
  unfold fc98 at h
  refine jaL0 (p := 1) rfl jM98 jq98_0 ?_
  refine jw_getP (p := 4) (i := 1) (q := 63) rfl jM98 jq98_1 rfl (jo_86 s.1) je_9_1 (jp_86_1 s.1) ?_
  refine jw_callV [] jM98 jq98_4 rfl rfl (jo_63 s.1) rfl jM22 rfl rfl ?_
  obtain ⟨x1, b2, h2⟩ := jo_b h
  refine jd22  b2 (fun σ1 s1 => ?_) σ s
  show jb_w (d + 4) 98 7 [some (.ref 86), none, none, none] [(.ref 65)] σ1 Q
  refine jaS1 (p := 8) rfl jM98 jq98_7 ?_
  refine jw_iconst (p := 9) rfl jM98 jq98_8 ?_
  refine jiS2 (p := 10) rfl jM98 jq98_9 ?_
  exact jd98_10 jo_N (jb_rn rfl) h2 k σ1 s1
-- 101 PageLoom$Walk.fault need 0
def fc101 (K : jc_K) (l1 : Int) : Option (jc_K × Int) := if jc_i K 86 10 ≤ l1 then (some (K, 0)) else (some (jc_ui K 86 10 l1, 0))
theorem jd101 {d : Nat} {σ0 : ib_H} {Q : ib_O → Prop} {K : jc_K} {l1 : Int} (hl1 : jb_r l1) {r : (jc_K × Int)} (h : fc101 K l1 = some r) (k : ∀ σ, jc_S σ0 r.1 σ → Q (.inl none, σ)) : jc_W σ0 K d 101 0 [some (.ref 86), some (jb_v l1)] [] Q := by
  intro σ s
  unfold fc101 at h
  refine jiL1 (p := 1) rfl jM101 jq101_0 ?_
  refine jaL0 (p := 2) rfl jM101 jq101_1 ?_
  refine jc_getI (p := 5) (i := 10) rfl jM101 jq101_2 rfl (jo_86 s.1) jn_9_10 s (by decide) (by decide) rfl ?_
  refine jw_ic (p := 8) rfl jM101 jq101_5 (jc_ge hl1 (s.r _ _)) (fun c1 => ?_) (fun c1 => ?_)
  · have h1 := jo_p c1 h
    cases h1
    exact jw_vret jM101 jq101_13 (k σ s)
  · have h1 := jo_n c1 h
    refine jaL0 (p := 9) rfl jM101 jq101_8 ?_
    refine jiL1 (p := 10) rfl jM101 jq101_9 ?_
    refine jc_putI (p := 13) (i := 10) rfl jM101 jq101_10 rfl (jo_86 s.1) (Or.inl jz_9_10) s (by decide) (by decide) hl1 ?_
    intro σ2 s2
    cases h1
    exact jw_vret jM101 jq101_13 (k σ2 s2)
-- 102 PageLoom$Walk.meet need 1
def fc102 (K : jc_K) (l1 : Int) (l2 : Int) (l3 : Int) (l4 : Int) : Option (jc_K × Int) := if l1 < 0 then ((fc101 K 2).bind fun x2 => some (x2.1, 0)) else (if 24 ≤ l1 then ((fc101 K 2).bind fun x5 => some (x5.1, 0)) else (if 0 ≤ l1 ∧ l1 < 24 then if jc_i K 91 l1 = 0 then (if jc_i K 86 8 < 24 then (if 0 ≤ (jc_i K 86 8) ∧ (jc_i K 86 8) < 24 then if -2147483648 ≤ ((jc_i K 86 8) + 1) ∧ ((jc_i K 86 8) + 1) < 2147483648 then some (jc_ui (jc_ui (jc_ui (jc_ui (jc_ui (jc_ui K 91 l1 1) 87 (jc_i K 86 8) l1) 88 (jc_i K 86 8) l2) 89 (jc_i K 86 8) l3) 90 (jc_i K 86 8) l4) 86 8 ((jc_i K 86 8) + 1), 0) else none else none) else ((fc101 K 2).bind fun x20 => some (x20.1, 0))) else ((fc101 K 2).bind fun x9 => some (x9.1, 0)) else none))
theorem jd102 {d : Nat} {σ0 : ib_H} {Q : ib_O → Prop} {K : jc_K} {l1 : Int} {l2 : Int} {l3 : Int} {l4 : Int} (hl1 : jb_r l1) (hl2 : jb_r l2) (hl3 : jb_r l3) (hl4 : jb_r l4) {r : (jc_K × Int)} (h : fc102 K l1 l2 l3 l4 = some r) (k : ∀ σ, jc_S σ0 r.1 σ → Q (.inl none, σ)) : jc_W σ0 K (d + 1) 102 0 [some (.ref 86), some (jb_v l1), some (jb_v l2), some (jb_v l3), some (jb_v l4)] [] Q := by
  intro σ s
  unfold fc102 at h
  refine jiL1 (p := 1) rfl jM102 jq102_0 ?_
  refine jw_if (p := 4) rfl jM102 jq102_1 (jc_lt hl1 jb_r0) (fun c1 => ?_) (fun c1 => ?_)
  · have h1 := jo_p c1 h
    refine jaL0 (p := 29) rfl jM102 jq102_28 ?_
    refine jw_iconst (p := 30) rfl jM102 jq102_29 ?_
    refine jw_callV [(jb_v 2)] jM102 jq102_30 rfl rfl (jo_86 s.1) rfl jM101 rfl rfl ?_
    obtain ⟨x2, b3, h3⟩ := jo_b h1
    refine jd101 (jb_rn rfl) b3 (fun σ2 s2 => ?_) σ s
    show jb_w (d + 1) 102 33 [some (.ref 86), some (jb_v l1), some (jb_v l2), some (jb_v l3), some (jb_v l4)] [] σ2 Q
    cases h3
    exact jw_vret jM102 jq102_33 (k σ2 s2)
  · have h1 := jo_n c1 h
    refine jiL1 (p := 5) rfl jM102 jq102_4 ?_
    refine jw_bipush (p := 7) rfl jM102 jq102_5 (by decide) ?_
    refine jw_ic (p := 10) rfl jM102 jq102_7 (jc_ge hl1 (jb_rn rfl)) (fun c4 => ?_) (fun c4 => ?_)
    · have h4 := jo_p c4 h1
      refine jaL0 (p := 29) rfl jM102 jq102_28 ?_
      refine jw_iconst (p := 30) rfl jM102 jq102_29 ?_
      refine jw_callV [(jb_v 2)] jM102 jq102_30 rfl rfl (jo_86 s.1) rfl jM101 rfl rfl ?_
      obtain ⟨x5, b6, h6⟩ := jo_b h4
      refine jd101 (jb_rn rfl) b6 (fun σ5 s5 => ?_) σ s
      show jb_w (d + 1) 102 33 [some (.ref 86), some (jb_v l1), some (jb_v l2), some (jb_v l3), some (jb_v l4)] [] σ5 Q
      cases h6
      exact jw_vret jM102 jq102_33 (k σ5 s5)
    · have h4 := jo_n c4 h1
      refine jaL0 (p := 11) rfl jM102 jq102_10 ?_
      refine jw_getP (p := 14) (i := 7) (q := 91) rfl jM102 jq102_11 rfl (jo_86 s.1) je_9_7 (jp_86_7 s.1) ?_
      refine jiL1 (p := 15) rfl jM102 jq102_14 ?_
      obtain ⟨c7, h7⟩ := jo_i h4
      refine jc_bald (p := 16) rfl jM102 jq102_15 (ja_91 s.1) c7.1 c7.2 s (by decide) rfl ?_
      refine jw_if (p := 19) rfl jM102 jq102_16 (jc_ne (s.r _ _) jb_r0) (fun c8 => ?_) (fun c8 => ?_)
      · have h8 := jo_n c8 h7
        refine jaL0 (p := 29) rfl jM102 jq102_28 ?_
        refine jw_iconst (p := 30) rfl jM102 jq102_29 ?_
        refine jw_callV [(jb_v 2)] jM102 jq102_30 rfl rfl (jo_86 s.1) rfl jM101 rfl rfl ?_
        obtain ⟨x9, b10, h10⟩ := jo_b h8
        refine jd101 (jb_rn rfl) b10 (fun σ9 s9 => ?_) σ s
        show jb_w (d + 1) 102 33 [some (.ref 86), some (jb_v l1), some (jb_v l2), some (jb_v l3), some (jb_v l4)] [] σ9 Q
        cases h10
        exact jw_vret jM102 jq102_33 (k σ9 s9)
      · have h8 := jo_p (Decidable.byContradiction c8) h7
        refine jaL0 (p := 20) rfl jM102 jq102_19 ?_
        refine jc_getI (p := 23) (i := 8) rfl jM102 jq102_20 rfl (jo_86 s.1) jn_9_8 s (by decide) (by decide) rfl ?_
        refine jw_bipush (p := 25) rfl jM102 jq102_23 (by decide) ?_
        refine jw_ic (p := 28) rfl jM102 jq102_25 (jc_lt (s.r _ _) (jb_rn rfl)) (fun c11 => ?_) (fun c11 => ?_)
        · have h11 := jo_p c11 h8
          refine jaL0 (p := 35) rfl jM102 jq102_34 ?_
          refine jw_getP (p := 38) (i := 7) (q := 91) rfl jM102 jq102_35 rfl (jo_86 s.1) je_9_7 (jp_86_7 s.1) ?_
          refine jiL1 (p := 39) rfl jM102 jq102_38 ?_
          refine jw_iconst (p := 40) rfl jM102 jq102_39 ?_
          refine jc_bast (p := 41) rfl jM102 jq102_40 (ja_91 s.1) c7.1 c7.2 (Or.inr rfl) s (by decide) ?_
          intro σ12 s12
          refine jaL0 (p := 42) rfl jM102 jq102_41 ?_
          refine jw_getP (p := 45) (i := 3) (q := 87) rfl jM102 jq102_42 rfl (jo_86 s12.1) je_9_3 (jp_86_3 s12.1) ?_
          refine jaL0 (p := 46) rfl jM102 jq102_45 ?_
          refine jc_getI (p := 49) (i := 8) rfl jM102 jq102_46 rfl (jo_86 s12.1) jn_9_8 s12 (by decide) (by decide) (jc_uN (by decide)) ?_
          refine jiL1 (p := 50) rfl jM102 jq102_49 ?_
          obtain ⟨c13, h13⟩ := jo_i h11
          refine jc_iast (p := 51) rfl jM102 jq102_50 (ja_87 s12.1) c13.1 c13.2 s12 (by decide) hl1 ?_
          intro σ14 s14
          refine jaL0 (p := 52) rfl jM102 jq102_51 ?_
          refine jw_getP (p := 55) (i := 4) (q := 88) rfl jM102 jq102_52 rfl (jo_86 s14.1) je_9_4 (jp_86_4 s14.1) ?_
          refine jaL0 (p := 56) rfl jM102 jq102_55 ?_
          refine jc_getI (p := 59) (i := 8) rfl jM102 jq102_56 rfl (jo_86 s14.1) jn_9_8 s14 (by decide) (by decide) ((jc_uN (by decide)).trans (jc_uN (by decide))) ?_
          refine jiL2 (p := 60) rfl jM102 jq102_59 ?_
          refine jc_iast (p := 61) rfl jM102 jq102_60 (ja_88 s14.1) c13.1 c13.2 s14 (by decide) hl2 ?_
          intro σ15 s15
          refine jaL0 (p := 62) rfl jM102 jq102_61 ?_
          refine jw_getP (p := 65) (i := 5) (q := 89) rfl jM102 jq102_62 rfl (jo_86 s15.1) je_9_5 (jp_86_5 s15.1) ?_
          refine jaL0 (p := 66) rfl jM102 jq102_65 ?_
          refine jc_getI (p := 69) (i := 8) rfl jM102 jq102_66 rfl (jo_86 s15.1) jn_9_8 s15 (by decide) (by decide) ((jc_uN (by decide)).trans ((jc_uN (by decide)).trans (jc_uN (by decide)))) ?_
          refine jiL3 (p := 70) rfl jM102 jq102_69 ?_
          refine jc_iast (p := 71) rfl jM102 jq102_70 (ja_89 s15.1) c13.1 c13.2 s15 (by decide) hl3 ?_
          intro σ16 s16
          refine jaL0 (p := 72) rfl jM102 jq102_71 ?_
          refine jw_getP (p := 75) (i := 6) (q := 90) rfl jM102 jq102_72 rfl (jo_86 s16.1) je_9_6 (jp_86_6 s16.1) ?_
          refine jaL0 (p := 76) rfl jM102 jq102_75 ?_
          refine jc_getI (p := 79) (i := 8) rfl jM102 jq102_76 rfl (jo_86 s16.1) jn_9_8 s16 (by decide) (by decide) ((jc_uN (by decide)).trans ((jc_uN (by decide)).trans ((jc_uN (by decide)).trans (jc_uN (by decide))))) ?_
          refine jiL4 (p := 81) rfl jM102 jq102_79 ?_
          refine jc_iast (p := 82) rfl jM102 jq102_81 (ja_90 s16.1) c13.1 c13.2 s16 (by decide) hl4 ?_
          intro σ17 s17
          refine jaL0 (p := 83) rfl jM102 jq102_82 ?_
          refine jw_dupA (p := 84) rfl jM102 jq102_83 ?_
          refine jc_getI (p := 87) (i := 8) rfl jM102 jq102_84 rfl (jo_86 s17.1) jn_9_8 s17 (by decide) (by decide) ((jc_uN (by decide)).trans ((jc_uN (by decide)).trans ((jc_uN (by decide)).trans ((jc_uN (by decide)).trans (jc_uN (by decide)))))) ?_
          refine jw_iconst (p := 88) rfl jM102 jq102_87 ?_
          refine jw_iadd (p := 89) rfl jM102 jq102_88 ?_
          obtain ⟨c18, h18⟩ := jo_i h13
          refine jc_putI (p := 92) (i := 8) rfl jM102 jq102_89 rfl (jo_86 s17.1) (Or.inl jz_9_8) s17 (by decide) (by decide) c18 ?_
          intro σ19 s19
          cases h18
          exact jw_vret jM102 jq102_92 (k σ19 s19)
        · have h11 := jo_n c11 h8
          refine jaL0 (p := 29) rfl jM102 jq102_28 ?_
          refine jw_iconst (p := 30) rfl jM102 jq102_29 ?_
          refine jw_callV [(jb_v 2)] jM102 jq102_30 rfl rfl (jo_86 s.1) rfl jM101 rfl rfl ?_
          obtain ⟨x20, b21, h21⟩ := jo_b h11
          refine jd101 (jb_rn rfl) b21 (fun σ20 s20 => ?_) σ s
          show jb_w (d + 1) 102 33 [some (.ref 86), some (jb_v l1), some (jb_v l2), some (jb_v l3), some (jb_v l4)] [] σ20 Q
          cases h21
          exact jw_vret jM102 jq102_33 (k σ20 s20)
-- 104 PageLoom$Walk.lookIntoLeaf need 2
def fc104_59 : Nat → jc_K → Int → Nat → Int → Option (jc_K × Int)
  | 0, _, _, _, _ => none
  | m + 1, K, l1, l2, l3 => if jc_pg K l2 then if jc_i K l2 2 ≤ l3 then (some (K, 0)) else ((fc38 K l2 l3).bind fun x3 => if 0 ≤ l1 ∧ l1 < 24 then if x3.2 < jc_i (x3.1) 89 l1 then ((fc101 (x3.1) 3).bind fun x7 => if -2147483648 ≤ (l3 + 1) ∧ (l3 + 1) < 2147483648 then fc104_59 m (x7.1) l1 l2 (l3 + 1) else none) else (if jc_i (x3.1) 90 l1 ≤ x3.2 then ((fc101 (x3.1) 3).bind fun x11 => if -2147483648 ≤ (l3 + 1) ∧ (l3 + 1) < 2147483648 then fc104_59 m (x11.1) l1 l2 (l3 + 1) else none) else (if l3 ≤ 0 then (if -2147483648 ≤ (l3 + 1) ∧ (l3 + 1) < 2147483648 then fc104_59 m (x3.1) l1 l2 (l3 + 1) else none) else (if jc_pg (x3.1) l2 then if -2147483648 ≤ (l3 - 1) ∧ (l3 - 1) < 2147483648 then (fc38 (x3.1) l2 (l3 - 1)).bind fun x18 => if x18.2 < x3.2 then (if -2147483648 ≤ (l3 + 1) ∧ (l3 + 1) < 2147483648 then fc104_59 m (x18.1) l1 l2 (l3 + 1) else none) else ((fc101 (x18.1) 3).bind fun x22 => if -2147483648 ≤ (l3 + 1) ∧ (l3 + 1) < 2147483648 then fc104_59 m (x22.1) l1 l2 (l3 + 1) else none) else none else none))) else none) else none
theorem jd104_59 {d : Nat} {σ0 : ib_H} {Q : ib_O → Prop} : ∀ (m : Nat) {K : jc_K} {l1 : Int} {l2 : Nat} {l3 : Int} {o4 : Option Value} (hl1 : jb_r l1) (hl3 : jb_r l3) {r : (jc_K × Int)} (h : fc104_59 m K l1 l2 l3 = some r) (k : ∀ σ, jc_S σ0 r.1 σ → Q (.inl none, σ)), jc_W σ0 K (d + 2) 104 59 [some (.ref 86), some (jb_v l1), some (.ref l2), some (jb_v l3), o4] [] Q := by
  intro m
  induction m with
  | zero =>
    intro K l1 l2 l3 o4 hl1 hl3 r h k
    cases h
  | succ m ih =>
    intro K l1 l2 l3 o4 hl1 hl3 r h k σ s
    unfold fc104_59 at h
    refine jiL3 (p := 60) rfl jM104 jq104_59 ?_
    refine jaL2 (p := 61) rfl jM104 jq104_60 ?_
    obtain ⟨c1, h1⟩ := jo_i h
    refine jc_getI (p := 64) (i := 2) rfl jM104 jq104_61 rfl (s.pg c1).ob jn_4_2 s (jc_pgd c1) (by decide) rfl ?_
    refine jw_ic (p := 67) rfl jM104 jq104_64 (jc_ge hl3 (s.r _ _)) (fun c2 => ?_) (fun c2 => ?_)
    · have h2 := jo_p c2 h1
      cases h2
      exact jw_vret jM104 jq104_123 (k σ s)
    · have h2 := jo_n c2 h1
      refine jaL2 (p := 68) rfl jM104 jq104_67 ?_
      refine jiL3 (p := 69) rfl jM104 jq104_68 ?_
      refine jw_callV [(jb_v l3)] jM104 jq104_69 rfl rfl (s.pg c1).ob rfl jM38 rfl rfl ?_
      obtain ⟨x3, b4, h4⟩ := jo_b h2
      refine jd38 hl3 b4 (fun σ3 s3 r3 => ?_) σ s
      show jb_w (d + 2) 104 72 [some (.ref 86), some (jb_v l1), some (.ref l2), some (jb_v l3), o4] [(jb_v (x3.2))] σ3 Q
      refine jiS4 (p := 74) rfl jM104 jq104_72 ?_
      refine jiL4 (p := 76) rfl jM104 jq104_74 ?_
      refine jaL0 (p := 77) rfl jM104 jq104_76 ?_
      refine jw_getP (p := 80) (i := 5) (q := 89) rfl jM104 jq104_77 rfl (jo_86 s3.1) je_9_5 (jp_86_5 s3.1) ?_
      refine jiL1 (p := 81) rfl jM104 jq104_80 ?_
      obtain ⟨c5, h5⟩ := jo_i h4
      refine jc_iald (p := 82) rfl jM104 jq104_81 (ja_89 s3.1) c5.1 c5.2 s3 (by decide) rfl ?_
      refine jw_ic (p := 85) rfl jM104 jq104_82 (jc_lt r3 (s3.r _ _)) (fun c6 => ?_) (fun c6 => ?_)
      · have h6 := jo_p c6 h5
        refine jaL0 (p := 113) rfl jM104 jq104_112 ?_
        refine jw_iconst (p := 114) rfl jM104 jq104_113 ?_
        refine jw_callV [(jb_v 3)] jM104 jq104_114 rfl rfl (jo_86 s3.1) rfl jM101 rfl rfl ?_
        obtain ⟨x7, b8, h8⟩ := jo_b h6
        refine jd101 (jb_rn rfl) b8 (fun σ7 s7 => ?_) σ3 s3
        show jb_w (d + 2) 104 117 [some (.ref 86), some (jb_v l1), some (.ref l2), some (jb_v l3), some (jb_v (x3.2))] [] σ7 Q
        refine jiI3 (p := 120) rfl jM104 jq104_117 ?_
        refine jw_goto jM104 jq104_120 ?_
        obtain ⟨c9, h9⟩ := jo_i h8
        exact ih hl1 c9 h9 k σ7 s7
      · have h6 := jo_n c6 h5
        refine jiL4 (p := 87) rfl jM104 jq104_85 ?_
        refine jaL0 (p := 88) rfl jM104 jq104_87 ?_
        refine jw_getP (p := 91) (i := 6) (q := 90) rfl jM104 jq104_88 rfl (jo_86 s3.1) je_9_6 (jp_86_6 s3.1) ?_
        refine jiL1 (p := 92) rfl jM104 jq104_91 ?_
        refine jc_iald (p := 93) rfl jM104 jq104_92 (ja_90 s3.1) c5.1 c5.2 s3 (by decide) rfl ?_
        refine jw_ic (p := 96) rfl jM104 jq104_93 (jc_ge r3 (s3.r _ _)) (fun c10 => ?_) (fun c10 => ?_)
        · have h10 := jo_p c10 h6
          refine jaL0 (p := 113) rfl jM104 jq104_112 ?_
          refine jw_iconst (p := 114) rfl jM104 jq104_113 ?_
          refine jw_callV [(jb_v 3)] jM104 jq104_114 rfl rfl (jo_86 s3.1) rfl jM101 rfl rfl ?_
          obtain ⟨x11, b12, h12⟩ := jo_b h10
          refine jd101 (jb_rn rfl) b12 (fun σ11 s11 => ?_) σ3 s3
          show jb_w (d + 2) 104 117 [some (.ref 86), some (jb_v l1), some (.ref l2), some (jb_v l3), some (jb_v (x3.2))] [] σ11 Q
          refine jiI3 (p := 120) rfl jM104 jq104_117 ?_
          refine jw_goto jM104 jq104_120 ?_
          obtain ⟨c13, h13⟩ := jo_i h12
          exact ih hl1 c13 h13 k σ11 s11
        · have h10 := jo_n c10 h6
          refine jiL3 (p := 97) rfl jM104 jq104_96 ?_
          refine jw_if (p := 100) rfl jM104 jq104_97 (jc_le hl3 jb_r0) (fun c14 => ?_) (fun c14 => ?_)
          · have h14 := jo_p c14 h10
            refine jiI3 (p := 120) rfl jM104 jq104_117 ?_
            refine jw_goto jM104 jq104_120 ?_
            obtain ⟨c15, h15⟩ := jo_i h14
            exact ih hl1 c15 h15 k σ3 s3
          · have h14 := jo_n c14 h10
            refine jiL4 (p := 102) rfl jM104 jq104_100 ?_
            refine jaL2 (p := 103) rfl jM104 jq104_102 ?_
            refine jiL3 (p := 104) rfl jM104 jq104_103 ?_
            refine jw_iconst (p := 105) rfl jM104 jq104_104 ?_
            refine jw_isub (p := 106) rfl jM104 jq104_105 ?_
            obtain ⟨c16, h16⟩ := jo_i h14
            obtain ⟨c17, h17⟩ := jo_i h16
            refine jw_callV [(jb_v (l3 - 1))] jM104 jq104_106 rfl rfl (s3.pg c16).ob rfl jM38 rfl rfl ?_
            obtain ⟨x18, b19, h19⟩ := jo_b h17
            refine jd38 c17 b19 (fun σ18 s18 r18 => ?_) σ3 s3
            show jb_w (d + 2) 104 109 [some (.ref 86), some (jb_v l1), some (.ref l2), some (jb_v l3), some (jb_v (x3.2))] [(jb_v (x18.2)), (jb_v (x3.2))] σ18 Q
            refine jw_ic (p := 112) rfl jM104 jq104_109 (jc_gt r3 r18) (fun c20 => ?_) (fun c20 => ?_)
            · have h20 := jo_p c20 h19
              refine jiI3 (p := 120) rfl jM104 jq104_117 ?_
              refine jw_goto jM104 jq104_120 ?_
              obtain ⟨c21, h21⟩ := jo_i h20
              exact ih hl1 c21 h21 k σ18 s18
            · have h20 := jo_n c20 h19
              refine jaL0 (p := 113) rfl jM104 jq104_112 ?_
              refine jw_iconst (p := 114) rfl jM104 jq104_113 ?_
              refine jw_callV [(jb_v 3)] jM104 jq104_114 rfl rfl (jo_86 s18.1) rfl jM101 rfl rfl ?_
              obtain ⟨x22, b23, h23⟩ := jo_b h20
              refine jd101 (jb_rn rfl) b23 (fun σ22 s22 => ?_) σ18 s18
              show jb_w (d + 2) 104 117 [some (.ref 86), some (jb_v l1), some (.ref l2), some (jb_v l3), some (jb_v (x3.2))] [] σ22 Q
              refine jiI3 (p := 120) rfl jM104 jq104_117 ?_
              refine jw_goto jM104 jq104_120 ?_
              obtain ⟨c24, h24⟩ := jo_i h23
              exact ih hl1 c24 h24 k σ22 s22
def fc104 (K : jc_K) (l1 : Int) (l2 : Nat) : Option (jc_K × Int) := if jc_i K 86 9 = (-1) then (if 0 ≤ l1 ∧ l1 < 24 then if jc_pg K l2 then if jc_i (jc_ui K 86 9 (jc_i K 88 l1)) l2 2 = 0 then (if jc_i K 87 l1 = 0 then (fc104_59 jo_N (jc_ui K 86 9 (jc_i K 88 l1)) l1 l2 0) else ((fc101 (jc_ui K 86 9 (jc_i K 88 l1)) 5).bind fun x7 => fc104_59 jo_N (x7.1) l1 l2 0)) else (fc104_59 jo_N (jc_ui K 86 9 (jc_i K 88 l1)) l1 l2 0) else none else none) else (if 0 ≤ l1 ∧ l1 < 24 then if jc_i K 86 9 = jc_i K 88 l1 then (if jc_pg K l2 then if jc_i (jc_ui K 86 9 (jc_i K 88 l1)) l2 2 = 0 then (if jc_i K 87 l1 = 0 then (fc104_59 jo_N (jc_ui K 86 9 (jc_i K 88 l1)) l1 l2 0) else ((fc101 (jc_ui K 86 9 (jc_i K 88 l1)) 5).bind fun x15 => fc104_59 jo_N (x15.1) l1 l2 0)) else (fc104_59 jo_N (jc_ui K 86 9 (jc_i K 88 l1)) l1 l2 0) else none) else ((fc101 K 4).bind fun x17 => if jc_pg (x17.1) l2 then if jc_i (jc_ui (x17.1) 86 9 (jc_i (x17.1) 88 l1)) l2 2 = 0 then (if jc_i (x17.1) 87 l1 = 0 then (fc104_59 jo_N (jc_ui (x17.1) 86 9 (jc_i (x17.1) 88 l1)) l1 l2 0) else ((fc101 (jc_ui (x17.1) 86 9 (jc_i (x17.1) 88 l1)) 5).bind fun x23 => fc104_59 jo_N (x23.1) l1 l2 0)) else (fc104_59 jo_N (jc_ui (x17.1) 86 9 (jc_i (x17.1) 88 l1)) l1 l2 0) else none) else none)
theorem jd104 {d : Nat} {σ0 : ib_H} {Q : ib_O → Prop} {K : jc_K} {l1 : Int} {l2 : Nat} (hl1 : jb_r l1) {r : (jc_K × Int)} (h : fc104 K l1 l2 = some r) (k : ∀ σ, jc_S σ0 r.1 σ → Q (.inl none, σ)) : jc_W σ0 K (d + 2) 104 0 [some (.ref 86), some (jb_v l1), some (.ref l2), none, none] [] Q := by
  intro σ s
  unfold fc104 at h
  refine jaL0 (p := 1) rfl jM104 jq104_0 ?_
  refine jc_getI (p := 4) (i := 9) rfl jM104 jq104_1 rfl (jo_86 s.1) jn_9_9 s (by decide) (by decide) rfl ?_
  refine jw_iconst (p := 5) rfl jM104 jq104_4 ?_
  refine jw_ic (p := 8) rfl jM104 jq104_5 (jc_eq (s.r _ _) (jb_rn rfl)) (fun c1 => ?_) (fun c1 => ?_)
  · have h1 := jo_p c1 h
    refine jaL0 (p := 27) rfl jM104 jq104_26 ?_
    refine jaL0 (p := 28) rfl jM104 jq104_27 ?_
    refine jw_getP (p := 31) (i := 4) (q := 88) rfl jM104 jq104_28 rfl (jo_86 s.1) je_9_4 (jp_86_4 s.1) ?_
    refine jiL1 (p := 32) rfl jM104 jq104_31 ?_
    obtain ⟨c2, h2⟩ := jo_i h1
    refine jc_iald (p := 33) rfl jM104 jq104_32 (ja_88 s.1) c2.1 c2.2 s (by decide) rfl ?_
    refine jc_putI (p := 36) (i := 9) rfl jM104 jq104_33 rfl (jo_86 s.1) (Or.inl jz_9_9) s (by decide) (by decide) (s.r _ _) ?_
    intro σ3 s3
    refine jaL2 (p := 37) rfl jM104 jq104_36 ?_
    obtain ⟨c4, h4⟩ := jo_i h2
    refine jc_getI (p := 40) (i := 2) rfl jM104 jq104_37 rfl (s3.pg c4).ob jn_4_2 s3 (jc_pgd c4) (by decide) rfl ?_
    refine jw_if (p := 43) rfl jM104 jq104_40 (jc_ne (s3.r _ _) jb_r0) (fun c5 => ?_) (fun c5 => ?_)
    · have h5 := jo_n c5 h4
      refine jw_iconst (p := 58) rfl jM104 jq104_57 ?_
      refine jiS3 (p := 59) rfl jM104 jq104_58 ?_
      exact jd104_59 jo_N hl1 (jb_rn rfl) h5 k σ3 s3
    · have h5 := jo_p (Decidable.byContradiction c5) h4
      refine jaL0 (p := 44) rfl jM104 jq104_43 ?_
      refine jw_getP (p := 47) (i := 3) (q := 87) rfl jM104 jq104_44 rfl (jo_86 s3.1) je_9_3 (jp_86_3 s3.1) ?_
      refine jiL1 (p := 48) rfl jM104 jq104_47 ?_
      refine jc_iald (p := 49) rfl jM104 jq104_48 (ja_87 s3.1) c2.1 c2.2 s3 (by decide) (jc_uN (by decide)) ?_
      refine jw_if (p := 52) rfl jM104 jq104_49 (jc_eq (s.r _ _) jb_r0) (fun c6 => ?_) (fun c6 => ?_)
      · have h6 := jo_p c6 h5
        refine jw_iconst (p := 58) rfl jM104 jq104_57 ?_
        refine jiS3 (p := 59) rfl jM104 jq104_58 ?_
        exact jd104_59 jo_N hl1 (jb_rn rfl) h6 k σ3 s3
      · have h6 := jo_n c6 h5
        refine jaL0 (p := 53) rfl jM104 jq104_52 ?_
        refine jw_iconst (p := 54) rfl jM104 jq104_53 ?_
        refine jw_callV [(jb_v 5)] jM104 jq104_54 rfl rfl (jo_86 s3.1) rfl jM101 rfl rfl ?_
        obtain ⟨x7, b8, h8⟩ := jo_b h6
        refine jd101 (jb_rn rfl) b8 (fun σ7 s7 => ?_) σ3 s3
        show jb_w (d + 2) 104 57 [some (.ref 86), some (jb_v l1), some (.ref l2), none, none] [] σ7 Q
        refine jw_iconst (p := 58) rfl jM104 jq104_57 ?_
        refine jiS3 (p := 59) rfl jM104 jq104_58 ?_
        exact jd104_59 jo_N hl1 (jb_rn rfl) h8 k σ7 s7
  · have h1 := jo_n c1 h
    refine jaL0 (p := 9) rfl jM104 jq104_8 ?_
    refine jc_getI (p := 12) (i := 9) rfl jM104 jq104_9 rfl (jo_86 s.1) jn_9_9 s (by decide) (by decide) rfl ?_
    refine jaL0 (p := 13) rfl jM104 jq104_12 ?_
    refine jw_getP (p := 16) (i := 4) (q := 88) rfl jM104 jq104_13 rfl (jo_86 s.1) je_9_4 (jp_86_4 s.1) ?_
    refine jiL1 (p := 17) rfl jM104 jq104_16 ?_
    obtain ⟨c9, h9⟩ := jo_i h1
    refine jc_iald (p := 18) rfl jM104 jq104_17 (ja_88 s.1) c9.1 c9.2 s (by decide) rfl ?_
    refine jw_ic (p := 21) rfl jM104 jq104_18 (jc_eq (s.r _ _) (s.r _ _)) (fun c10 => ?_) (fun c10 => ?_)
    · have h10 := jo_p c10 h9
      refine jaL0 (p := 27) rfl jM104 jq104_26 ?_
      refine jaL0 (p := 28) rfl jM104 jq104_27 ?_
      refine jw_getP (p := 31) (i := 4) (q := 88) rfl jM104 jq104_28 rfl (jo_86 s.1) je_9_4 (jp_86_4 s.1) ?_
      refine jiL1 (p := 32) rfl jM104 jq104_31 ?_
      refine jc_iald (p := 33) rfl jM104 jq104_32 (ja_88 s.1) c9.1 c9.2 s (by decide) rfl ?_
      refine jc_putI (p := 36) (i := 9) rfl jM104 jq104_33 rfl (jo_86 s.1) (Or.inl jz_9_9) s (by decide) (by decide) (s.r _ _) ?_
      intro σ11 s11
      refine jaL2 (p := 37) rfl jM104 jq104_36 ?_
      obtain ⟨c12, h12⟩ := jo_i h10
      refine jc_getI (p := 40) (i := 2) rfl jM104 jq104_37 rfl (s11.pg c12).ob jn_4_2 s11 (jc_pgd c12) (by decide) rfl ?_
      refine jw_if (p := 43) rfl jM104 jq104_40 (jc_ne (s11.r _ _) jb_r0) (fun c13 => ?_) (fun c13 => ?_)
      · have h13 := jo_n c13 h12
        refine jw_iconst (p := 58) rfl jM104 jq104_57 ?_
        refine jiS3 (p := 59) rfl jM104 jq104_58 ?_
        exact jd104_59 jo_N hl1 (jb_rn rfl) h13 k σ11 s11
      · have h13 := jo_p (Decidable.byContradiction c13) h12
        refine jaL0 (p := 44) rfl jM104 jq104_43 ?_
        refine jw_getP (p := 47) (i := 3) (q := 87) rfl jM104 jq104_44 rfl (jo_86 s11.1) je_9_3 (jp_86_3 s11.1) ?_
        refine jiL1 (p := 48) rfl jM104 jq104_47 ?_
        refine jc_iald (p := 49) rfl jM104 jq104_48 (ja_87 s11.1) c9.1 c9.2 s11 (by decide) (jc_uN (by decide)) ?_
        refine jw_if (p := 52) rfl jM104 jq104_49 (jc_eq (s.r _ _) jb_r0) (fun c14 => ?_) (fun c14 => ?_)
        · have h14 := jo_p c14 h13
          refine jw_iconst (p := 58) rfl jM104 jq104_57 ?_
          refine jiS3 (p := 59) rfl jM104 jq104_58 ?_
          exact jd104_59 jo_N hl1 (jb_rn rfl) h14 k σ11 s11
        · have h14 := jo_n c14 h13
          refine jaL0 (p := 53) rfl jM104 jq104_52 ?_
          refine jw_iconst (p := 54) rfl jM104 jq104_53 ?_
          refine jw_callV [(jb_v 5)] jM104 jq104_54 rfl rfl (jo_86 s11.1) rfl jM101 rfl rfl ?_
          obtain ⟨x15, b16, h16⟩ := jo_b h14
          refine jd101 (jb_rn rfl) b16 (fun σ15 s15 => ?_) σ11 s11
          show jb_w (d + 2) 104 57 [some (.ref 86), some (jb_v l1), some (.ref l2), none, none] [] σ15 Q
          refine jw_iconst (p := 58) rfl jM104 jq104_57 ?_
          refine jiS3 (p := 59) rfl jM104 jq104_58 ?_
          exact jd104_59 jo_N hl1 (jb_rn rfl) h16 k σ15 s15
    · have h10 := jo_n c10 h9
      refine jaL0 (p := 22) rfl jM104 jq104_21 ?_
      refine jw_iconst (p := 23) rfl jM104 jq104_22 ?_
      refine jw_callV [(jb_v 4)] jM104 jq104_23 rfl rfl (jo_86 s.1) rfl jM101 rfl rfl ?_
      obtain ⟨x17, b18, h18⟩ := jo_b h10
      refine jd101 (jb_rn rfl) b18 (fun σ17 s17 => ?_) σ s
      show jb_w (d + 2) 104 26 [some (.ref 86), some (jb_v l1), some (.ref l2), none, none] [] σ17 Q
      refine jaL0 (p := 27) rfl jM104 jq104_26 ?_
      refine jaL0 (p := 28) rfl jM104 jq104_27 ?_
      refine jw_getP (p := 31) (i := 4) (q := 88) rfl jM104 jq104_28 rfl (jo_86 s17.1) je_9_4 (jp_86_4 s17.1) ?_
      refine jiL1 (p := 32) rfl jM104 jq104_31 ?_
      refine jc_iald (p := 33) rfl jM104 jq104_32 (ja_88 s17.1) c9.1 c9.2 s17 (by decide) rfl ?_
      refine jc_putI (p := 36) (i := 9) rfl jM104 jq104_33 rfl (jo_86 s17.1) (Or.inl jz_9_9) s17 (by decide) (by decide) (s17.r _ _) ?_
      intro σ19 s19
      refine jaL2 (p := 37) rfl jM104 jq104_36 ?_
      obtain ⟨c20, h20⟩ := jo_i h18
      refine jc_getI (p := 40) (i := 2) rfl jM104 jq104_37 rfl (s19.pg c20).ob jn_4_2 s19 (jc_pgd c20) (by decide) rfl ?_
      refine jw_if (p := 43) rfl jM104 jq104_40 (jc_ne (s19.r _ _) jb_r0) (fun c21 => ?_) (fun c21 => ?_)
      · have h21 := jo_n c21 h20
        refine jw_iconst (p := 58) rfl jM104 jq104_57 ?_
        refine jiS3 (p := 59) rfl jM104 jq104_58 ?_
        exact jd104_59 jo_N hl1 (jb_rn rfl) h21 k σ19 s19
      · have h21 := jo_p (Decidable.byContradiction c21) h20
        refine jaL0 (p := 44) rfl jM104 jq104_43 ?_
        refine jw_getP (p := 47) (i := 3) (q := 87) rfl jM104 jq104_44 rfl (jo_86 s19.1) je_9_3 (jp_86_3 s19.1) ?_
        refine jiL1 (p := 48) rfl jM104 jq104_47 ?_
        refine jc_iald (p := 49) rfl jM104 jq104_48 (ja_87 s19.1) c9.1 c9.2 s19 (by decide) (jc_uN (by decide)) ?_
        refine jw_if (p := 52) rfl jM104 jq104_49 (jc_eq (s17.r _ _) jb_r0) (fun c22 => ?_) (fun c22 => ?_)
        · have h22 := jo_p c22 h21
          refine jw_iconst (p := 58) rfl jM104 jq104_57 ?_
          refine jiS3 (p := 59) rfl jM104 jq104_58 ?_
          exact jd104_59 jo_N hl1 (jb_rn rfl) h22 k σ19 s19
        · have h22 := jo_n c22 h21
          refine jaL0 (p := 53) rfl jM104 jq104_52 ?_
          refine jw_iconst (p := 54) rfl jM104 jq104_53 ?_
          refine jw_callV [(jb_v 5)] jM104 jq104_54 rfl rfl (jo_86 s19.1) rfl jM101 rfl rfl ?_
          obtain ⟨x23, b24, h24⟩ := jo_b h22
          refine jd101 (jb_rn rfl) b24 (fun σ23 s23 => ?_) σ19 s19
          show jb_w (d + 2) 104 57 [some (.ref 86), some (jb_v l1), some (.ref l2), none, none] [] σ23 Q
          refine jw_iconst (p := 58) rfl jM104 jq104_57 ?_
          refine jiS3 (p := 59) rfl jM104 jq104_58 ?_
          exact jd104_59 jo_N hl1 (jb_rn rfl) h24 k σ23 s23
-- 105 PageLoom$Walk.lookIntoInner need 2
def fc105_22 : Nat → jc_K → Int → Nat → Int → Int → Option (jc_K × Int)
  | 0, _, _, _, _, _ => none
  | m + 1, K, l1, l2, l3, l4 => if jc_pg K l2 then if jc_i K l2 2 ≤ l4 then (some (K, 0)) else (if -2147483648 ≤ (l4 + 1) ∧ (l4 + 1) < 2147483648 then if l4 + 1 < jc_i K l2 2 then ((fc38 K l2 (l4 + 1)).bind fun x5 => if x5.2 < l3 then ((fc101 (x5.1) 3).bind fun x8 => if jc_pg (x8.1) l2 then (fc39 (x8.1) l2 l4).bind fun x11 => if 0 ≤ l1 ∧ l1 < 24 then if -2147483648 ≤ ((jc_i (x11.1) 88 l1) + 1) ∧ ((jc_i (x11.1) 88 l1) + 1) < 2147483648 then (fc102 (x11.1) (x11.2) ((jc_i (x11.1) 88 l1) + 1) l3 (x5.2)).bind fun x15 => fc105_22 m (x15.1) l1 l2 (x5.2) (l4 + 1) else none else none else none) else (if 0 ≤ l1 ∧ l1 < 24 then if x5.2 < jc_i (x5.1) 90 l1 then (if jc_pg (x5.1) l2 then (fc39 (x5.1) l2 l4).bind fun x20 => if -2147483648 ≤ ((jc_i (x20.1) 88 l1) + 1) ∧ ((jc_i (x20.1) 88 l1) + 1) < 2147483648 then (fc102 (x20.1) (x20.2) ((jc_i (x20.1) 88 l1) + 1) l3 (x5.2)).bind fun x23 => fc105_22 m (x23.1) l1 l2 (x5.2) (l4 + 1) else none else none) else ((fc101 (x5.1) 3).bind fun x25 => if jc_pg (x25.1) l2 then (fc39 (x25.1) l2 l4).bind fun x28 => if -2147483648 ≤ ((jc_i (x28.1) 88 l1) + 1) ∧ ((jc_i (x28.1) 88 l1) + 1) < 2147483648 then (fc102 (x28.1) (x28.2) ((jc_i (x28.1) 88 l1) + 1) l3 (x5.2)).bind fun x31 => fc105_22 m (x31.1) l1 l2 (x5.2) (l4 + 1) else none else none) else none)) else (if 0 ≤ l1 ∧ l1 < 24 then (fc39 K l2 l4).bind fun x34 => if -2147483648 ≤ ((jc_i (x34.1) 88 l1) + 1) ∧ ((jc_i (x34.1) 88 l1) + 1) < 2147483648 then (fc102 (x34.1) (x34.2) ((jc_i (x34.1) 88 l1) + 1) l3 (jc_i K 90 l1)).bind fun x37 => fc105_22 m (x37.1) l1 l2 (jc_i K 90 l1) (l4 + 1) else none else none) else none) else none
theorem jd105_22 {d : Nat} {σ0 : ib_H} {Q : ib_O → Prop} : ∀ (m : Nat) {K : jc_K} {l1 : Int} {l2 : Nat} {l3 : Int} {l4 : Int} {o5 : Option Value} {o6 : Option Value} (hl1 : jb_r l1) (hl3 : jb_r l3) (hl4 : jb_r l4) {r : (jc_K × Int)} (h : fc105_22 m K l1 l2 l3 l4 = some r) (k : ∀ σ, jc_S σ0 r.1 σ → Q (.inl none, σ)), jc_W σ0 K (d + 2) 105 22 [some (.ref 86), some (jb_v l1), some (.ref l2), some (jb_v l3), some (jb_v l4), o5, o6] [] Q := by
  intro m
  induction m with
  | zero =>
    intro K l1 l2 l3 l4 o5 o6 hl1 hl3 hl4 r h k
    cases h
  | succ m ih =>
    intro K l1 l2 l3 l4 o5 o6 hl1 hl3 hl4 r h k σ s
    unfold fc105_22 at h
    refine jiL4 (p := 24) rfl jM105 jq105_22 ?_
    refine jaL2 (p := 25) rfl jM105 jq105_24 ?_
    obtain ⟨c1, h1⟩ := jo_i h
    refine jc_getI (p := 28) (i := 2) rfl jM105 jq105_25 rfl (s.pg c1).ob jn_4_2 s (jc_pgd c1) (by decide) rfl ?_
    refine jw_ic (p := 31) rfl jM105 jq105_28 (jc_ge hl4 (s.r _ _)) (fun c2 => ?_) (fun c2 => ?_)
    · have h2 := jo_p c2 h1
      cases h2
      exact jw_vret jM105 jq105_130 (k σ s)
    · have h2 := jo_n c2 h1
      refine jiL4 (p := 33) rfl jM105 jq105_31 ?_
      refine jw_iconst (p := 34) rfl jM105 jq105_33 ?_
      refine jw_iadd (p := 35) rfl jM105 jq105_34 ?_
      refine jaL2 (p := 36) rfl jM105 jq105_35 ?_
      refine jc_getI (p := 39) (i := 2) rfl jM105 jq105_36 rfl (s.pg c1).ob jn_4_2 s (jc_pgd c1) (by decide) rfl ?_
      obtain ⟨c3, h3⟩ := jo_i h2
      refine jw_ic (p := 42) rfl jM105 jq105_39 (jc_lt c3 (s.r _ _)) (fun c4 => ?_) (fun c4 => ?_)
      · have h4 := jo_p c4 h3
        refine jw_iconst (p := 47) rfl jM105 jq105_46 ?_
        refine jiS5 (p := 49) rfl jM105 jq105_47 ?_
        refine jiL5 (p := 51) rfl jM105 jq105_49 ?_
        refine jw_if (p := 54) rfl jM105 jq105_51 (jc_eq (jb_rn rfl) jb_r0) (fun _ => ?_) (fun z => absurd (by decide) z)
        refine jaL2 (p := 64) rfl jM105 jq105_63 ?_
        refine jiL4 (p := 66) rfl jM105 jq105_64 ?_
        refine jw_iconst (p := 67) rfl jM105 jq105_66 ?_
        refine jw_iadd (p := 68) rfl jM105 jq105_67 ?_
        refine jw_callV [(jb_v (l4 + 1))] jM105 jq105_68 rfl rfl (s.pg c1).ob rfl jM38 rfl rfl ?_
        obtain ⟨x5, b6, h6⟩ := jo_b h4
        refine jd38 c3 b6 (fun σ5 s5 r5 => ?_) σ s
        show jb_w (d + 2) 105 71 [some (.ref 86), some (jb_v l1), some (.ref l2), some (jb_v l3), some (jb_v l4), some (jb_v 0), o6] [(jb_v (x5.2))] σ5 Q
        refine jiS6 (p := 73) rfl jM105 jq105_71 ?_
        refine jiL5 (p := 75) rfl jM105 jq105_73 ?_
        refine jw_if (p := 78) rfl jM105 jq105_75 (jc_ne (jb_rn rfl) jb_r0) (fun z => absurd z (by decide)) (fun _ => ?_)
        refine jiL6 (p := 80) rfl jM105 jq105_78 ?_
        refine jiL3 (p := 81) rfl jM105 jq105_80 ?_
        refine jw_ic (p := 84) rfl jM105 jq105_81 (jc_lt r5 hl3) (fun c7 => ?_) (fun c7 => ?_)
        · have h7 := jo_p c7 h6
          refine jaL0 (p := 96) rfl jM105 jq105_95 ?_
          refine jw_iconst (p := 97) rfl jM105 jq105_96 ?_
          refine jw_callV [(jb_v 3)] jM105 jq105_97 rfl rfl (jo_86 s5.1) rfl jM101 rfl rfl ?_
          obtain ⟨x8, b9, h9⟩ := jo_b h7
          refine jd101 (jb_rn rfl) b9 (fun σ8 s8 => ?_) σ5 s5
          show jb_w (d + 2) 105 100 [some (.ref 86), some (jb_v l1), some (.ref l2), some (jb_v l3), some (jb_v l4), some (jb_v 0), some (jb_v (x5.2))] [] σ8 Q
          refine jaL0 (p := 101) rfl jM105 jq105_100 ?_
          refine jaL2 (p := 102) rfl jM105 jq105_101 ?_
          refine jiL4 (p := 104) rfl jM105 jq105_102 ?_
          obtain ⟨c10, h10⟩ := jo_i h9
          refine jw_callV [(jb_v l4)] jM105 jq105_104 rfl rfl (s8.pg c10).ob rfl jM39 rfl rfl ?_
          obtain ⟨x11, b12, h12⟩ := jo_b h10
          refine jd39 hl4 b12 (fun σ11 s11 r11 => ?_) σ8 s8
          show jb_w (d + 2) 105 107 [some (.ref 86), some (jb_v l1), some (.ref l2), some (jb_v l3), some (jb_v l4), some (jb_v 0), some (jb_v (x5.2))] [(jb_v (x11.2)), (.ref 86)] σ11 Q
          refine jaL0 (p := 108) rfl jM105 jq105_107 ?_
          refine jw_getP (p := 111) (i := 4) (q := 88) rfl jM105 jq105_108 rfl (jo_86 s11.1) je_9_4 (jp_86_4 s11.1) ?_
          refine jiL1 (p := 112) rfl jM105 jq105_111 ?_
          obtain ⟨c13, h13⟩ := jo_i h12
          refine jc_iald (p := 113) rfl jM105 jq105_112 (ja_88 s11.1) c13.1 c13.2 s11 (by decide) rfl ?_
          refine jw_iconst (p := 114) rfl jM105 jq105_113 ?_
          refine jw_iadd (p := 115) rfl jM105 jq105_114 ?_
          refine jiL3 (p := 116) rfl jM105 jq105_115 ?_
          refine jiL6 (p := 118) rfl jM105 jq105_116 ?_
          obtain ⟨c14, h14⟩ := jo_i h13
          refine jw_callV [(jb_v (x11.2)), (jb_v ((jc_i (x11.1) 88 l1) + 1)), (jb_v l3), (jb_v (x5.2))] jM105 jq105_118 rfl rfl (jo_86 s11.1) rfl jM102 rfl rfl ?_
          obtain ⟨x15, b16, h16⟩ := jo_b h14
          refine jd102 r11 c14 hl3 r5 b16 (fun σ15 s15 => ?_) σ11 s11
          show jb_w (d + 2) 105 121 [some (.ref 86), some (jb_v l1), some (.ref l2), some (jb_v l3), some (jb_v l4), some (jb_v 0), some (jb_v (x5.2))] [] σ15 Q
          refine jiL6 (p := 123) rfl jM105 jq105_121 ?_
          refine jiS3 (p := 124) rfl jM105 jq105_123 ?_
          refine jiI4 (p := 127) rfl jM105 jq105_124 ?_
          refine jw_goto jM105 jq105_127 ?_
          exact ih hl1 r5 c3 h16 k σ15 s15
        · have h7 := jo_n c7 h6
          refine jiL6 (p := 86) rfl jM105 jq105_84 ?_
          refine jaL0 (p := 87) rfl jM105 jq105_86 ?_
          refine jw_getP (p := 90) (i := 6) (q := 90) rfl jM105 jq105_87 rfl (jo_86 s5.1) je_9_6 (jp_86_6 s5.1) ?_
          refine jiL1 (p := 91) rfl jM105 jq105_90 ?_
          obtain ⟨c17, h17⟩ := jo_i h7
          refine jc_iald (p := 92) rfl jM105 jq105_91 (ja_90 s5.1) c17.1 c17.2 s5 (by decide) rfl ?_
          refine jw_ic (p := 95) rfl jM105 jq105_92 (jc_lt r5 (s5.r _ _)) (fun c18 => ?_) (fun c18 => ?_)
          · have h18 := jo_p c18 h17
            refine jaL0 (p := 101) rfl jM105 jq105_100 ?_
            refine jaL2 (p := 102) rfl jM105 jq105_101 ?_
            refine jiL4 (p := 104) rfl jM105 jq105_102 ?_
            obtain ⟨c19, h19⟩ := jo_i h18
            refine jw_callV [(jb_v l4)] jM105 jq105_104 rfl rfl (s5.pg c19).ob rfl jM39 rfl rfl ?_
            obtain ⟨x20, b21, h21⟩ := jo_b h19
            refine jd39 hl4 b21 (fun σ20 s20 r20 => ?_) σ5 s5
            show jb_w (d + 2) 105 107 [some (.ref 86), some (jb_v l1), some (.ref l2), some (jb_v l3), some (jb_v l4), some (jb_v 0), some (jb_v (x5.2))] [(jb_v (x20.2)), (.ref 86)] σ20 Q
            refine jaL0 (p := 108) rfl jM105 jq105_107 ?_
            refine jw_getP (p := 111) (i := 4) (q := 88) rfl jM105 jq105_108 rfl (jo_86 s20.1) je_9_4 (jp_86_4 s20.1) ?_
            refine jiL1 (p := 112) rfl jM105 jq105_111 ?_
            refine jc_iald (p := 113) rfl jM105 jq105_112 (ja_88 s20.1) c17.1 c17.2 s20 (by decide) rfl ?_
            refine jw_iconst (p := 114) rfl jM105 jq105_113 ?_
            refine jw_iadd (p := 115) rfl jM105 jq105_114 ?_
            refine jiL3 (p := 116) rfl jM105 jq105_115 ?_
            refine jiL6 (p := 118) rfl jM105 jq105_116 ?_
            obtain ⟨c22, h22⟩ := jo_i h21
            refine jw_callV [(jb_v (x20.2)), (jb_v ((jc_i (x20.1) 88 l1) + 1)), (jb_v l3), (jb_v (x5.2))] jM105 jq105_118 rfl rfl (jo_86 s20.1) rfl jM102 rfl rfl ?_
            obtain ⟨x23, b24, h24⟩ := jo_b h22
            refine jd102 r20 c22 hl3 r5 b24 (fun σ23 s23 => ?_) σ20 s20
            show jb_w (d + 2) 105 121 [some (.ref 86), some (jb_v l1), some (.ref l2), some (jb_v l3), some (jb_v l4), some (jb_v 0), some (jb_v (x5.2))] [] σ23 Q
            refine jiL6 (p := 123) rfl jM105 jq105_121 ?_
            refine jiS3 (p := 124) rfl jM105 jq105_123 ?_
            refine jiI4 (p := 127) rfl jM105 jq105_124 ?_
            refine jw_goto jM105 jq105_127 ?_
            exact ih hl1 r5 c3 h24 k σ23 s23
          · have h18 := jo_n c18 h17
            refine jaL0 (p := 96) rfl jM105 jq105_95 ?_
            refine jw_iconst (p := 97) rfl jM105 jq105_96 ?_
            refine jw_callV [(jb_v 3)] jM105 jq105_97 rfl rfl (jo_86 s5.1) rfl jM101 rfl rfl ?_
            obtain ⟨x25, b26, h26⟩ := jo_b h18
            refine jd101 (jb_rn rfl) b26 (fun σ25 s25 => ?_) σ5 s5
            show jb_w (d + 2) 105 100 [some (.ref 86), some (jb_v l1), some (.ref l2), some (jb_v l3), some (jb_v l4), some (jb_v 0), some (jb_v (x5.2))] [] σ25 Q
            refine jaL0 (p := 101) rfl jM105 jq105_100 ?_
            refine jaL2 (p := 102) rfl jM105 jq105_101 ?_
            refine jiL4 (p := 104) rfl jM105 jq105_102 ?_
            obtain ⟨c27, h27⟩ := jo_i h26
            refine jw_callV [(jb_v l4)] jM105 jq105_104 rfl rfl (s25.pg c27).ob rfl jM39 rfl rfl ?_
            obtain ⟨x28, b29, h29⟩ := jo_b h27
            refine jd39 hl4 b29 (fun σ28 s28 r28 => ?_) σ25 s25
            show jb_w (d + 2) 105 107 [some (.ref 86), some (jb_v l1), some (.ref l2), some (jb_v l3), some (jb_v l4), some (jb_v 0), some (jb_v (x5.2))] [(jb_v (x28.2)), (.ref 86)] σ28 Q
            refine jaL0 (p := 108) rfl jM105 jq105_107 ?_
            refine jw_getP (p := 111) (i := 4) (q := 88) rfl jM105 jq105_108 rfl (jo_86 s28.1) je_9_4 (jp_86_4 s28.1) ?_
            refine jiL1 (p := 112) rfl jM105 jq105_111 ?_
            refine jc_iald (p := 113) rfl jM105 jq105_112 (ja_88 s28.1) c17.1 c17.2 s28 (by decide) rfl ?_
            refine jw_iconst (p := 114) rfl jM105 jq105_113 ?_
            refine jw_iadd (p := 115) rfl jM105 jq105_114 ?_
            refine jiL3 (p := 116) rfl jM105 jq105_115 ?_
            refine jiL6 (p := 118) rfl jM105 jq105_116 ?_
            obtain ⟨c30, h30⟩ := jo_i h29
            refine jw_callV [(jb_v (x28.2)), (jb_v ((jc_i (x28.1) 88 l1) + 1)), (jb_v l3), (jb_v (x5.2))] jM105 jq105_118 rfl rfl (jo_86 s28.1) rfl jM102 rfl rfl ?_
            obtain ⟨x31, b32, h32⟩ := jo_b h30
            refine jd102 r28 c30 hl3 r5 b32 (fun σ31 s31 => ?_) σ28 s28
            show jb_w (d + 2) 105 121 [some (.ref 86), some (jb_v l1), some (.ref l2), some (jb_v l3), some (jb_v l4), some (jb_v 0), some (jb_v (x5.2))] [] σ31 Q
            refine jiL6 (p := 123) rfl jM105 jq105_121 ?_
            refine jiS3 (p := 124) rfl jM105 jq105_123 ?_
            refine jiI4 (p := 127) rfl jM105 jq105_124 ?_
            refine jw_goto jM105 jq105_127 ?_
            exact ih hl1 r5 c3 h32 k σ31 s31
      · have h4 := jo_n c4 h3
        refine jw_iconst (p := 43) rfl jM105 jq105_42 ?_
        refine jw_goto jM105 jq105_43 ?_
        refine jiS5 (p := 49) rfl jM105 jq105_47 ?_
        refine jiL5 (p := 51) rfl jM105 jq105_49 ?_
        refine jw_if (p := 54) rfl jM105 jq105_51 (jc_eq (jb_rn rfl) jb_r0) (fun z => absurd z (by decide)) (fun _ => ?_)
        refine jaL0 (p := 55) rfl jM105 jq105_54 ?_
        refine jw_getP (p := 58) (i := 6) (q := 90) rfl jM105 jq105_55 rfl (jo_86 s.1) je_9_6 (jp_86_6 s.1) ?_
        refine jiL1 (p := 59) rfl jM105 jq105_58 ?_
        obtain ⟨c33, h33⟩ := jo_i h4
        refine jc_iald (p := 60) rfl jM105 jq105_59 (ja_90 s.1) c33.1 c33.2 s (by decide) rfl ?_
        refine jw_goto jM105 jq105_60 ?_
        refine jiS6 (p := 73) rfl jM105 jq105_71 ?_
        refine jiL5 (p := 75) rfl jM105 jq105_73 ?_
        refine jw_if (p := 78) rfl jM105 jq105_75 (jc_ne (jb_rn rfl) jb_r0) (fun _ => ?_) (fun z => absurd (by decide) z)
        refine jaL0 (p := 101) rfl jM105 jq105_100 ?_
        refine jaL2 (p := 102) rfl jM105 jq105_101 ?_
        refine jiL4 (p := 104) rfl jM105 jq105_102 ?_
        refine jw_callV [(jb_v l4)] jM105 jq105_104 rfl rfl (s.pg c1).ob rfl jM39 rfl rfl ?_
        obtain ⟨x34, b35, h35⟩ := jo_b h33
        refine jd39 hl4 b35 (fun σ34 s34 r34 => ?_) σ s
        show jb_w (d + 2) 105 107 [some (.ref 86), some (jb_v l1), some (.ref l2), some (jb_v l3), some (jb_v l4), some (jb_v 1), some (jb_v (jc_i K 90 l1))] [(jb_v (x34.2)), (.ref 86)] σ34 Q
        refine jaL0 (p := 108) rfl jM105 jq105_107 ?_
        refine jw_getP (p := 111) (i := 4) (q := 88) rfl jM105 jq105_108 rfl (jo_86 s34.1) je_9_4 (jp_86_4 s34.1) ?_
        refine jiL1 (p := 112) rfl jM105 jq105_111 ?_
        refine jc_iald (p := 113) rfl jM105 jq105_112 (ja_88 s34.1) c33.1 c33.2 s34 (by decide) rfl ?_
        refine jw_iconst (p := 114) rfl jM105 jq105_113 ?_
        refine jw_iadd (p := 115) rfl jM105 jq105_114 ?_
        refine jiL3 (p := 116) rfl jM105 jq105_115 ?_
        refine jiL6 (p := 118) rfl jM105 jq105_116 ?_
        obtain ⟨c36, h36⟩ := jo_i h35
        refine jw_callV [(jb_v (x34.2)), (jb_v ((jc_i (x34.1) 88 l1) + 1)), (jb_v l3), (jb_v (jc_i K 90 l1))] jM105 jq105_118 rfl rfl (jo_86 s34.1) rfl jM102 rfl rfl ?_
        obtain ⟨x37, b38, h38⟩ := jo_b h36
        refine jd102 r34 c36 hl3 (s.r _ _) b38 (fun σ37 s37 => ?_) σ34 s34
        show jb_w (d + 2) 105 121 [some (.ref 86), some (jb_v l1), some (.ref l2), some (jb_v l3), some (jb_v l4), some (jb_v 1), some (jb_v (jc_i K 90 l1))] [] σ37 Q
        refine jiL6 (p := 123) rfl jM105 jq105_121 ?_
        refine jiS3 (p := 124) rfl jM105 jq105_123 ?_
        refine jiI4 (p := 127) rfl jM105 jq105_124 ?_
        refine jw_goto jM105 jq105_127 ?_
        exact ih hl1 (s.r _ _) c3 h38 k σ37 s37
def fc105 (K : jc_K) (l1 : Int) (l2 : Nat) : Option (jc_K × Int) := if jc_pg K l2 then if jc_i K l2 2 = 0 then ((fc101 K 5).bind fun x4 => if 0 ≤ l1 ∧ l1 < 24 then fc105_22 jo_N (x4.1) l1 l2 (jc_i (x4.1) 89 l1) 0 else none) else (if 0 ≤ l1 ∧ l1 < 24 then fc105_22 jo_N K l1 l2 (jc_i K 89 l1) 0 else none) else none
theorem jd105 {d : Nat} {σ0 : ib_H} {Q : ib_O → Prop} {K : jc_K} {l1 : Int} {l2 : Nat} (hl1 : jb_r l1) {r : (jc_K × Int)} (h : fc105 K l1 l2 = some r) (k : ∀ σ, jc_S σ0 r.1 σ → Q (.inl none, σ)) : jc_W σ0 K (d + 2) 105 0 [some (.ref 86), some (jb_v l1), some (.ref l2), none, none, none, none] [] Q := by
  intro σ s
  unfold fc105 at h
  refine jaL2 (p := 1) rfl jM105 jq105_0 ?_
  obtain ⟨c1, h1⟩ := jo_i h
  refine jc_getI (p := 4) (i := 2) rfl jM105 jq105_1 rfl (s.pg c1).ob jn_4_2 s (jc_pgd c1) (by decide) rfl ?_
  refine jw_if (p := 7) rfl jM105 jq105_4 (jc_ne (s.r _ _) jb_r0) (fun c2 => ?_) (fun c2 => ?_)
  · have h2 := jo_n c2 h1
    refine jaL0 (p := 13) rfl jM105 jq105_12 ?_
    refine jw_getP (p := 16) (i := 5) (q := 89) rfl jM105 jq105_13 rfl (jo_86 s.1) je_9_5 (jp_86_5 s.1) ?_
    refine jiL1 (p := 17) rfl jM105 jq105_16 ?_
    obtain ⟨c3, h3⟩ := jo_i h2
    refine jc_iald (p := 18) rfl jM105 jq105_17 (ja_89 s.1) c3.1 c3.2 s (by decide) rfl ?_
    refine jiS3 (p := 19) rfl jM105 jq105_18 ?_
    refine jw_iconst (p := 20) rfl jM105 jq105_19 ?_
    refine jiS4 (p := 22) rfl jM105 jq105_20 ?_
    exact jd105_22 jo_N hl1 (s.r _ _) (jb_rn rfl) h3 k σ s
  · have h2 := jo_p (Decidable.byContradiction c2) h1
    refine jaL0 (p := 8) rfl jM105 jq105_7 ?_
    refine jw_iconst (p := 9) rfl jM105 jq105_8 ?_
    refine jw_callV [(jb_v 5)] jM105 jq105_9 rfl rfl (jo_86 s.1) rfl jM101 rfl rfl ?_
    obtain ⟨x4, b5, h5⟩ := jo_b h2
    refine jd101 (jb_rn rfl) b5 (fun σ4 s4 => ?_) σ s
    show jb_w (d + 2) 105 12 [some (.ref 86), some (jb_v l1), some (.ref l2), none, none, none, none] [] σ4 Q
    refine jaL0 (p := 13) rfl jM105 jq105_12 ?_
    refine jw_getP (p := 16) (i := 5) (q := 89) rfl jM105 jq105_13 rfl (jo_86 s4.1) je_9_5 (jp_86_5 s4.1) ?_
    refine jiL1 (p := 17) rfl jM105 jq105_16 ?_
    obtain ⟨c6, h6⟩ := jo_i h5
    refine jc_iald (p := 18) rfl jM105 jq105_17 (ja_89 s4.1) c6.1 c6.2 s4 (by decide) rfl ?_
    refine jiS3 (p := 19) rfl jM105 jq105_18 ?_
    refine jw_iconst (p := 20) rfl jM105 jq105_19 ?_
    refine jiS4 (p := 22) rfl jM105 jq105_20 ?_
    exact jd105_22 jo_N hl1 (s4.r _ _) (jb_rn rfl) h6 k σ4 s4
-- 103 PageLoom$Walk.lookInto need 3
def fc103 (K : jc_K) (l1 : Int) : Option (jc_K × Int) := if 0 ≤ l1 ∧ l1 < 24 then (fc3 K (jc_i K 87 l1)).bind fun x2 => if x2.2 = 0 then ((fc101 (x2.1) 1).bind fun x14 => some (x14.1, 0)) else (if jc_pg (x2.1) (x2.2) then if jc_i (x2.1) (x2.2) 0 = 0 then ((fc101 (x2.1) 2).bind fun x12 => some (x12.1, 0)) else (if jc_i (x2.1) (x2.2) 0 = 1 then ((fc104 (x2.1) l1 (x2.2)).bind fun x10 => some (x10.1, 0)) else ((fc105 (x2.1) l1 (x2.2)).bind fun x8 => some (x8.1, 0))) else none) else none
theorem jd103 {d : Nat} {σ0 : ib_H} {Q : ib_O → Prop} {K : jc_K} {l1 : Int} (hl1 : jb_r l1) {r : (jc_K × Int)} (h : fc103 K l1 = some r) (k : ∀ σ, jc_S σ0 r.1 σ → Q (.inl none, σ)) : jc_W σ0 K (d + 3) 103 0 [some (.ref 86), some (jb_v l1), none] [] Q := by
  intro σ s
  unfold fc103 at h
  refine jaL0 (p := 1) rfl jM103 jq103_0 ?_
  refine jw_getP (p := 4) (i := 0) (q := 66) rfl jM103 jq103_1 rfl (jo_86 s.1) je_9_0 (jp_86_0 s.1) ?_
  refine jaL0 (p := 5) rfl jM103 jq103_4 ?_
  refine jw_getP (p := 8) (i := 3) (q := 87) rfl jM103 jq103_5 rfl (jo_86 s.1) je_9_3 (jp_86_3 s.1) ?_
  refine jiL1 (p := 9) rfl jM103 jq103_8 ?_
  obtain ⟨c1, h1⟩ := jo_i h
  refine jc_iald (p := 10) rfl jM103 jq103_9 (ja_87 s.1) c1.1 c1.2 s (by decide) rfl ?_
  refine jw_callV [(jb_v (jc_i K 87 l1))] jM103 jq103_10 rfl rfl (jo_66 s.1) rfl jM3 rfl rfl ?_
  obtain ⟨x2, b3, h3⟩ := jo_b h1
  refine jd3 (s.r _ _) b3 (fun σ2 s2 => ?_) σ s
  show jb_w (d + 3) 103 13 [some (.ref 86), some (jb_v l1), none] [(.ref (x2.2))] σ2 Q
  refine jaS2 (p := 14) rfl jM103 jq103_13 ?_
  refine jaL2 (p := 15) rfl jM103 jq103_14 ?_
  refine jw_ifnonnull (p := 18) rfl jM103 jq103_15 (fun c4 => ?_) (fun c4 => ?_)
  · have h4 := jo_n c4 h3
    refine jaL2 (p := 27) rfl jM103 jq103_26 ?_
    obtain ⟨c5, h5⟩ := jo_i h4
    refine jc_getI (p := 30) (i := 0) rfl jM103 jq103_27 rfl (s2.pg c5).ob jn_4_0 s2 (jc_pgd c5) (by decide) rfl ?_
    refine jw_if (p := 33) rfl jM103 jq103_30 (jc_ne (s2.r _ _) jb_r0) (fun c6 => ?_) (fun c6 => ?_)
    · have h6 := jo_n c6 h5
      refine jaL2 (p := 42) rfl jM103 jq103_41 ?_
      refine jc_getI (p := 45) (i := 0) rfl jM103 jq103_42 rfl (s2.pg c5).ob jn_4_0 s2 (jc_pgd c5) (by decide) rfl ?_
      refine jw_iconst (p := 46) rfl jM103 jq103_45 ?_
      refine jw_ic (p := 49) rfl jM103 jq103_46 (jc_ne (s2.r _ _) (jb_rn rfl)) (fun c7 => ?_) (fun c7 => ?_)
      · have h7 := jo_n c7 h6
        refine jaL0 (p := 59) rfl jM103 jq103_58 ?_
        refine jiL1 (p := 60) rfl jM103 jq103_59 ?_
        refine jaL2 (p := 61) rfl jM103 jq103_60 ?_
        refine jw_callV [(jb_v l1), (.ref (x2.2))] jM103 jq103_61 rfl rfl (jo_86 s2.1) rfl jM105 rfl rfl ?_
        obtain ⟨x8, b9, h9⟩ := jo_b h7
        refine jd105 hl1 b9 (fun σ8 s8 => ?_) σ2 s2
        show jb_w (d + 3) 103 64 [some (.ref 86), some (jb_v l1), some (.ref (x2.2))] [] σ8 Q
        cases h9
        exact jw_vret jM103 jq103_64 (k σ8 s8)
      · have h7 := jo_p (Decidable.byContradiction c7) h6
        refine jaL0 (p := 50) rfl jM103 jq103_49 ?_
        refine jiL1 (p := 51) rfl jM103 jq103_50 ?_
        refine jaL2 (p := 52) rfl jM103 jq103_51 ?_
        refine jw_callV [(jb_v l1), (.ref (x2.2))] jM103 jq103_52 rfl rfl (jo_86 s2.1) rfl jM104 rfl rfl ?_
        obtain ⟨x10, b11, h11⟩ := jo_b h7
        refine jd104 hl1 b11 (fun σ10 s10 => ?_) σ2 s2
        show jb_w (d + 3) 103 55 [some (.ref 86), some (jb_v l1), some (.ref (x2.2))] [] σ10 Q
        refine jw_goto jM103 jq103_55 ?_
        cases h11
        exact jw_vret jM103 jq103_64 (k σ10 s10)
    · have h6 := jo_p (Decidable.byContradiction c6) h5
      refine jaL0 (p := 34) rfl jM103 jq103_33 ?_
      refine jw_iconst (p := 35) rfl jM103 jq103_34 ?_
      refine jw_callV [(jb_v 2)] jM103 jq103_35 rfl rfl (jo_86 s2.1) rfl jM101 rfl rfl ?_
      obtain ⟨x12, b13, h13⟩ := jo_b h6
      refine jd101 (jb_rn rfl) b13 (fun σ12 s12 => ?_) σ2 s2
      show jb_w (d + 3) 103 38 [some (.ref 86), some (jb_v l1), some (.ref (x2.2))] [] σ12 Q
      refine jw_goto jM103 jq103_38 ?_
      cases h13
      exact jw_vret jM103 jq103_64 (k σ12 s12)
  · have h4 := jo_p c4 h3
    refine jaL0 (p := 19) rfl jM103 jq103_18 ?_
    refine jw_iconst (p := 20) rfl jM103 jq103_19 ?_
    refine jw_callV [(jb_v 1)] jM103 jq103_20 rfl rfl (jo_86 s2.1) rfl jM101 rfl rfl ?_
    obtain ⟨x14, b15, h15⟩ := jo_b h4
    refine jd101 (jb_rn rfl) b15 (fun σ14 s14 => ?_) σ2 s2
    show jb_w (d + 3) 103 23 [some (.ref 86), some (jb_v l1), some (.ref (x2.2))] [] σ14 Q
    refine jw_goto jM103 jq103_23 ?_
    cases h15
    exact jw_vret jM103 jq103_64 (k σ14 s14)
-- 100 PageLoom$Walk.leastFault need 4
def fc100_75 : Nat → jc_K → Int → Option (jc_K × Int)
  | 0, _, _ => none
  | m + 1, K, l1 => if 24 ≤ l1 then (if jc_i K 86 10 = 7 then (some (K, 0)) else (some (K, jc_i K 86 10))) else ((fc4 K l1).bind fun x3 => if 0 ≤ l1 ∧ l1 < 24 then if jc_i (x3.1) 91 l1 = 0 then (if x3.2 = (-1) then (if -2147483648 ≤ (l1 + 1) ∧ (l1 + 1) < 2147483648 then fc100_75 m (x3.1) (l1 + 1) else none) else (if x3.2 = 0 then (if -2147483648 ≤ (l1 + 1) ∧ (l1 + 1) < 2147483648 then fc100_75 m (x3.1) (l1 + 1) else none) else ((fc101 (x3.1) 6).bind fun x12 => if -2147483648 ≤ (l1 + 1) ∧ (l1 + 1) < 2147483648 then fc100_75 m (x12.1) (l1 + 1) else none))) else (if -2147483648 ≤ (l1 + 1) ∧ (l1 + 1) < 2147483648 then fc100_75 m (x3.1) (l1 + 1) else none) else none)
theorem jd100_75 {d : Nat} {σ0 : ib_H} {Q : ib_O → Prop} : ∀ (m : Nat) {K : jc_K} {l1 : Int} {o2 : Option Value} (hl1 : jb_r l1) {r : (jc_K × Int)} (h : fc100_75 m K l1 = some r) (k : ∀ σ, jc_S σ0 r.1 σ → jb_r r.2 → Q (.inl (some (jb_v r.2)), σ)), jc_W σ0 K (d + 4) 100 75 [some (.ref 86), some (jb_v l1), o2] [] Q := by
  intro m
  induction m with
  | zero =>
    intro K l1 o2 hl1 r h k
    cases h
  | succ m ih =>
    intro K l1 o2 hl1 r h k σ s
    unfold fc100_75 at h
    refine jiL1 (p := 76) rfl jM100 jq100_75 ?_
    refine jw_bipush (p := 78) rfl jM100 jq100_76 (by decide) ?_
    refine jw_ic (p := 81) rfl jM100 jq100_78 (jc_ge hl1 (jb_rn rfl)) (fun c1 => ?_) (fun c1 => ?_)
    · have h1 := jo_p c1 h
      refine jaL0 (p := 121) rfl jM100 jq100_120 ?_
      refine jc_getI (p := 124) (i := 10) rfl jM100 jq100_121 rfl (jo_86 s.1) jn_9_10 s (by decide) (by decide) rfl ?_
      refine jw_bipush (p := 126) rfl jM100 jq100_124 (by decide) ?_
      refine jw_ic (p := 129) rfl jM100 jq100_126 (jc_ne (s.r _ _) (jb_rn rfl)) (fun c2 => ?_) (fun c2 => ?_)
      · have h2 := jo_n c2 h1
        refine jaL0 (p := 134) rfl jM100 jq100_133 ?_
        refine jc_getI (p := 137) (i := 10) rfl jM100 jq100_134 rfl (jo_86 s.1) jn_9_10 s (by decide) (by decide) rfl ?_
        cases h2
        exact jw_iret jM100 jq100_137 (fun z => absurd z (by decide)) (k σ s (s.r _ _))
      · have h2 := jo_p (Decidable.byContradiction c2) h1
        refine jw_iconst (p := 130) rfl jM100 jq100_129 ?_
        refine jw_goto jM100 jq100_130 ?_
        cases h2
        exact jw_iret jM100 jq100_137 (fun z => absurd z (by decide)) (k σ s (jb_rn rfl))
    · have h1 := jo_n c1 h
      refine jaL0 (p := 82) rfl jM100 jq100_81 ?_
      refine jw_getP (p := 85) (i := 0) (q := 66) rfl jM100 jq100_82 rfl (jo_86 s.1) je_9_0 (jp_86_0 s.1) ?_
      refine jiL1 (p := 86) rfl jM100 jq100_85 ?_
      refine jw_callV [(jb_v l1)] jM100 jq100_86 rfl rfl (jo_66 s.1) rfl jM4 rfl rfl ?_
      obtain ⟨x3, b4, h4⟩ := jo_b h1
      refine jd4 hl1 b4 (fun σ3 s3 r3 => ?_) σ s
      show jb_w (d + 4) 100 89 [some (.ref 86), some (jb_v l1), o2] [(jb_v (x3.2))] σ3 Q
      refine jiS2 (p := 90) rfl jM100 jq100_89 ?_
      refine jaL0 (p := 91) rfl jM100 jq100_90 ?_
      refine jw_getP (p := 94) (i := 7) (q := 91) rfl jM100 jq100_91 rfl (jo_86 s3.1) je_9_7 (jp_86_7 s3.1) ?_
      refine jiL1 (p := 95) rfl jM100 jq100_94 ?_
      obtain ⟨c5, h5⟩ := jo_i h4
      refine jc_bald (p := 96) rfl jM100 jq100_95 (ja_91 s3.1) c5.1 c5.2 s3 (by decide) rfl ?_
      refine jw_if (p := 99) rfl jM100 jq100_96 (jc_ne (s3.r _ _) jb_r0) (fun c6 => ?_) (fun c6 => ?_)
      · have h6 := jo_n c6 h5
        refine jiI1 (p := 117) rfl jM100 jq100_114 ?_
        refine jw_goto jM100 jq100_117 ?_
        obtain ⟨c7, h7⟩ := jo_i h6
        exact ih c7 h7 k σ3 s3
      · have h6 := jo_p (Decidable.byContradiction c6) h5
        refine jiL2 (p := 100) rfl jM100 jq100_99 ?_
        refine jw_iconst (p := 101) rfl jM100 jq100_100 ?_
        refine jw_ic (p := 104) rfl jM100 jq100_101 (jc_eq r3 (jb_rn rfl)) (fun c8 => ?_) (fun c8 => ?_)
        · have h8 := jo_p c8 h6
          refine jiI1 (p := 117) rfl jM100 jq100_114 ?_
          refine jw_goto jM100 jq100_117 ?_
          obtain ⟨c9, h9⟩ := jo_i h8
          exact ih c9 h9 k σ3 s3
        · have h8 := jo_n c8 h6
          refine jiL2 (p := 105) rfl jM100 jq100_104 ?_
          refine jw_if (p := 108) rfl jM100 jq100_105 (jc_eq r3 jb_r0) (fun c10 => ?_) (fun c10 => ?_)
          · have h10 := jo_p c10 h8
            refine jiI1 (p := 117) rfl jM100 jq100_114 ?_
            refine jw_goto jM100 jq100_117 ?_
            obtain ⟨c11, h11⟩ := jo_i h10
            exact ih c11 h11 k σ3 s3
          · have h10 := jo_n c10 h8
            refine jaL0 (p := 109) rfl jM100 jq100_108 ?_
            refine jw_bipush (p := 111) rfl jM100 jq100_109 (by decide) ?_
            refine jw_callV [(jb_v 6)] jM100 jq100_111 rfl rfl (jo_86 s3.1) rfl jM101 rfl rfl ?_
            obtain ⟨x12, b13, h13⟩ := jo_b h10
            refine jd101 (jb_rn rfl) b13 (fun σ12 s12 => ?_) σ3 s3
            show jb_w (d + 4) 100 114 [some (.ref 86), some (jb_v l1), some (jb_v (x3.2))] [] σ12 Q
            refine jiI1 (p := 117) rfl jM100 jq100_114 ?_
            refine jw_goto jM100 jq100_117 ?_
            obtain ⟨c14, h14⟩ := jo_i h13
            exact ih c14 h14 k σ12 s12
def fc100_48 : Nat → jc_K → Int → Option (jc_K × Int)
  | 0, _, _ => none
  | m + 1, K, l1 => if jc_i K 86 8 ≤ l1 then (fc100_75 jo_N K 0) else (if 24 ≤ l1 then (fc100_75 jo_N K 0) else ((fc103 K l1).bind fun x3 => if -2147483648 ≤ (l1 + 1) ∧ (l1 + 1) < 2147483648 then fc100_48 m (x3.1) (l1 + 1) else none))
theorem jd100_48 {d : Nat} {σ0 : ib_H} {Q : ib_O → Prop} : ∀ (m : Nat) {K : jc_K} {l1 : Int} (hl1 : jb_r l1) {r : (jc_K × Int)} (h : fc100_48 m K l1 = some r) (k : ∀ σ, jc_S σ0 r.1 σ → jb_r r.2 → Q (.inl (some (jb_v r.2)), σ)), jc_W σ0 K (d + 4) 100 48 [some (.ref 86), some (jb_v l1), none] [] Q := by
  intro m
  induction m with
  | zero =>
    intro K l1 hl1 r h k
    cases h
  | succ m ih =>
    intro K l1 hl1 r h k σ s
    unfold fc100_48 at h
    refine jiL1 (p := 49) rfl jM100 jq100_48 ?_
    refine jaL0 (p := 50) rfl jM100 jq100_49 ?_
    refine jc_getI (p := 53) (i := 8) rfl jM100 jq100_50 rfl (jo_86 s.1) jn_9_8 s (by decide) (by decide) rfl ?_
    refine jw_ic (p := 56) rfl jM100 jq100_53 (jc_ge hl1 (s.r _ _)) (fun c1 => ?_) (fun c1 => ?_)
    · have h1 := jo_p c1 h
      refine jw_iconst (p := 74) rfl jM100 jq100_73 ?_
      refine jiS1 (p := 75) rfl jM100 jq100_74 ?_
      exact jd100_75 jo_N (jb_rn rfl) h1 k σ s
    · have h1 := jo_n c1 h
      refine jiL1 (p := 57) rfl jM100 jq100_56 ?_
      refine jw_bipush (p := 59) rfl jM100 jq100_57 (by decide) ?_
      refine jw_ic (p := 62) rfl jM100 jq100_59 (jc_ge hl1 (jb_rn rfl)) (fun c2 => ?_) (fun c2 => ?_)
      · have h2 := jo_p c2 h1
        refine jw_iconst (p := 74) rfl jM100 jq100_73 ?_
        refine jiS1 (p := 75) rfl jM100 jq100_74 ?_
        exact jd100_75 jo_N (jb_rn rfl) h2 k σ s
      · have h2 := jo_n c2 h1
        refine jaL0 (p := 63) rfl jM100 jq100_62 ?_
        refine jiL1 (p := 64) rfl jM100 jq100_63 ?_
        refine jw_callV [(jb_v l1)] jM100 jq100_64 rfl rfl (jo_86 s.1) rfl jM103 rfl rfl ?_
        obtain ⟨x3, b4, h4⟩ := jo_b h2
        refine jd103 hl1 b4 (fun σ3 s3 => ?_) σ s
        show jb_w (d + 4) 100 67 [some (.ref 86), some (jb_v l1), none] [] σ3 Q
        refine jiI1 (p := 70) rfl jM100 jq100_67 ?_
        refine jw_goto jM100 jq100_70 ?_
        obtain ⟨c5, h5⟩ := jo_i h4
        exact ih c5 h5 k σ3 s3
def fc100_2 : Nat → jc_K → Int → Option (jc_K × Int)
  | 0, _, _ => none
  | m + 1, K, l1 => if 24 ≤ l1 then ((fc102 (jc_ui (jc_ui (jc_ui K 86 8 0) 86 9 (-1)) 86 10 7) 0 0 0 32).bind fun x5 => fc100_48 jo_N (x5.1) 0) else (if 0 ≤ l1 ∧ l1 < 24 then if -2147483648 ≤ (l1 + 1) ∧ (l1 + 1) < 2147483648 then fc100_2 m (jc_ui K 91 l1 0) (l1 + 1) else none else none)
theorem jd100_2 {d : Nat} {σ0 : ib_H} {Q : ib_O → Prop} : ∀ (m : Nat) {K : jc_K} {l1 : Int} (hl1 : jb_r l1) {r : (jc_K × Int)} (h : fc100_2 m K l1 = some r) (k : ∀ σ, jc_S σ0 r.1 σ → jb_r r.2 → Q (.inl (some (jb_v r.2)), σ)), jc_W σ0 K (d + 4) 100 2 [some (.ref 86), some (jb_v l1), none] [] Q := by
  intro m
  induction m with
  | zero =>
    intro K l1 hl1 r h k
    cases h
  | succ m ih =>
    intro K l1 hl1 r h k σ s
    unfold fc100_2 at h
    refine jiL1 (p := 3) rfl jM100 jq100_2 ?_
    refine jw_bipush (p := 5) rfl jM100 jq100_3 (by decide) ?_
    refine jw_ic (p := 8) rfl jM100 jq100_5 (jc_ge hl1 (jb_rn rfl)) (fun c1 => ?_) (fun c1 => ?_)
    · have h1 := jo_p c1 h
      refine jaL0 (p := 22) rfl jM100 jq100_21 ?_
      refine jw_iconst (p := 23) rfl jM100 jq100_22 ?_
      refine jc_putI (p := 26) (i := 8) rfl jM100 jq100_23 rfl (jo_86 s.1) (Or.inl jz_9_8) s (by decide) (by decide) (jb_rn rfl) ?_
      intro σ2 s2
      refine jaL0 (p := 27) rfl jM100 jq100_26 ?_
      refine jw_iconst (p := 28) rfl jM100 jq100_27 ?_
      refine jc_putI (p := 31) (i := 9) rfl jM100 jq100_28 rfl (jo_86 s2.1) (Or.inl jz_9_9) s2 (by decide) (by decide) (jb_rn rfl) ?_
      intro σ3 s3
      refine jaL0 (p := 32) rfl jM100 jq100_31 ?_
      refine jw_bipush (p := 34) rfl jM100 jq100_32 (by decide) ?_
      refine jc_putI (p := 37) (i := 10) rfl jM100 jq100_34 rfl (jo_86 s3.1) (Or.inl jz_9_10) s3 (by decide) (by decide) (jb_rn rfl) ?_
      intro σ4 s4
      refine jaL0 (p := 38) rfl jM100 jq100_37 ?_
      refine jw_iconst (p := 39) rfl jM100 jq100_38 ?_
      refine jw_iconst (p := 40) rfl jM100 jq100_39 ?_
      refine jw_iconst (p := 41) rfl jM100 jq100_40 ?_
      refine jw_bipush (p := 43) rfl jM100 jq100_41 (by decide) ?_
      refine jw_callV [(jb_v 0), (jb_v 0), (jb_v 0), (jb_v 32)] jM100 jq100_43 rfl rfl (jo_86 s4.1) rfl jM102 rfl rfl ?_
      obtain ⟨x5, b6, h6⟩ := jo_b h1
      refine jd102 (jb_rn rfl) (jb_rn rfl) (jb_rn rfl) (jb_rn rfl) b6 (fun σ5 s5 => ?_) σ4 s4
      show jb_w (d + 4) 100 46 [some (.ref 86), some (jb_v l1), none] [] σ5 Q
      refine jw_iconst (p := 47) rfl jM100 jq100_46 ?_
      refine jiS1 (p := 48) rfl jM100 jq100_47 ?_
      exact jd100_48 jo_N (jb_rn rfl) h6 k σ5 s5
    · have h1 := jo_n c1 h
      refine jaL0 (p := 9) rfl jM100 jq100_8 ?_
      refine jw_getP (p := 12) (i := 7) (q := 91) rfl jM100 jq100_9 rfl (jo_86 s.1) je_9_7 (jp_86_7 s.1) ?_
      refine jiL1 (p := 13) rfl jM100 jq100_12 ?_
      refine jw_iconst (p := 14) rfl jM100 jq100_13 ?_
      obtain ⟨c7, h7⟩ := jo_i h1
      refine jc_bast (p := 15) rfl jM100 jq100_14 (ja_91 s.1) c7.1 c7.2 (Or.inl rfl) s (by decide) ?_
      intro σ8 s8
      refine jiI1 (p := 18) rfl jM100 jq100_15 ?_
      refine jw_goto jM100 jq100_18 ?_
      obtain ⟨c9, h9⟩ := jo_i h7
      exact ih c9 h9 k σ8 s8
def fc100 (K : jc_K) : Option (jc_K × Int) := fc100_2 jo_N K 0
theorem jd100 {d : Nat} {σ0 : ib_H} {Q : ib_O → Prop} {K : jc_K} {r : (jc_K × Int)} (h : fc100 K  = some r) (k : ∀ σ, jc_S σ0 r.1 σ → jb_r r.2 → Q (.inl (some (jb_v r.2)), σ)) : jc_W σ0 K (d + 4) 100 0 [some (.ref 86), none, none] [] Q := by
  intro σ s
  unfold fc100 at h
  refine jw_iconst (p := 1) rfl jM100 jq100_0 ?_
  refine jiS1 (p := 2) rfl jM100 jq100_1 ?_
  exact jd100_2 jo_N (jb_rn rfl) h k σ s
-- 107 PageLoom.open need 7
def fc107 (K : jc_K) (l1 : Int) : Option (jc_K × (Int ⊕ Nat)) := if l1 < 0 then (some (jc_cost K 1 6, .inr 0)) else (if l1 < 4 then (if jc_i K 2 8 = 0 then (if 0 ≤ l1 ∧ l1 < 4 then if jc_i K 58 l1 = 0 then ((fc62 K l1).bind fun x6 => some (x6.1, .inl 0)) else (some (jc_cost K 1 6, .inr 1)) else none) else (some (jc_cost K 1 6, .inr 1))) else (some (jc_cost K 1 6, .inr 0)))
theorem jd107 {d : Nat} {σ0 : ib_H} {Q : ib_O → Prop} {K : jc_K} {l1 : Int} (hl1 : jb_r l1) {r : (jc_K × (Int ⊕ Nat))} (h : fc107 K l1 = some r) (k : ∀ σ, jc_S σ0 r.1 σ → (∀ v, r.2 = .inl v → jb_r v) → jc_E true r.2 σ Q) : jc_W σ0 K (d + 7) 107 0 [some (.ref 2), some (jb_v l1)] [] Q := by
  intro σ s
  unfold fc107 at h
  refine jiL1 (p := 1) rfl jM107 jq107_0 ?_
  refine jw_callS [(jb_v l1)] jM107 jq107_1 rfl rfl rfl jM134 rfl rfl ?_
  show jb_w (d + 6) 134 0 [some (jb_v l1)] [] σ (jb_k (d + 7) 107 1 [some (.ref 2), some (jb_v l1)] [] Q)
  refine jiL0 (p := 1) rfl jM134 jq134_0 ?_
  refine jw_if (p := 4) rfl jM134 jq134_1 (jc_lt hl1 jb_r0) (fun c1 => ?_) (fun c1 => ?_)
  · have h1 := jo_p c1 h
    cases h1
    exact jb_throw (k := 0) jM134 jq134_9 rfl (Nat.le_add_left_of_le (by decide)) (k _ (s.cost 1 6) (fun _ z => by cases z))
  · have h1 := jo_n c1 h
    refine jiL0 (p := 5) rfl jM134 jq134_4 ?_
    refine jw_iconst (p := 6) rfl jM134 jq134_5 ?_
    refine jw_ic (p := 9) rfl jM134 jq134_6 (jc_lt hl1 (jb_rn rfl)) (fun c2 => ?_) (fun c2 => ?_)
    · have h2 := jo_p c2 h1
      refine jw_vret jM134 jq134_20 ?_
      show jb_w (d + 7) 107 4 [some (.ref 2), some (jb_v l1)] [] σ Q
      refine jaL0 (p := 5) rfl jM107 jq107_4 ?_
      refine jw_callV [] jM107 jq107_5 rfl rfl (jo_2 s.1) rfl jM137 rfl rfl ?_
      show jb_w (d + 6) 137 0 [some (.ref 2)] [] σ (jb_k (d + 7) 107 5 [some (.ref 2), some (jb_v l1)] [] Q)
      refine jaL0 (p := 1) rfl jM137 jq137_0 ?_
      refine jc_getI (p := 4) (i := 8) rfl jM137 jq137_1 rfl (jo_2 s.1) jn_10_8 s (by decide) (by decide) rfl ?_
      refine jw_if (p := 7) rfl jM137 jq137_4 (jc_eq (s.r _ _) jb_r0) (fun c3 => ?_) (fun c3 => ?_)
      · have h3 := jo_p c3 h2
        refine jw_vret jM137 jq137_18 ?_
        show jb_w (d + 7) 107 8 [some (.ref 2), some (jb_v l1)] [] σ Q
        refine jaL0 (p := 9) rfl jM107 jq107_8 ?_
        refine jw_getP (p := 12) (i := 1) (q := 57) rfl jM107 jq107_9 rfl (jo_2 s.1) je_10_1 (jp_2_1 s.1) ?_
        refine jw_getP (p := 15) (i := 0) (q := 58) rfl jM107 jq107_12 rfl (jo_57 s.1) je_6_0 (jp_57_0 s.1) ?_
        refine jiL1 (p := 16) rfl jM107 jq107_15 ?_
        obtain ⟨c4, h4⟩ := jo_i h3
        refine jc_bald (p := 17) rfl jM107 jq107_16 (ja_58 s.1) c4.1 c4.2 s (by decide) rfl ?_
        refine jw_if (p := 20) rfl jM107 jq107_17 (jc_eq (s.r _ _) jb_r0) (fun c5 => ?_) (fun c5 => ?_)
        · have h5 := jo_p c5 h4
          refine jaL0 (p := 31) rfl jM107 jq107_30 ?_
          refine jw_getP (p := 34) (i := 1) (q := 57) rfl jM107 jq107_31 rfl (jo_2 s.1) je_10_1 (jp_2_1 s.1) ?_
          refine jiL1 (p := 35) rfl jM107 jq107_34 ?_
          refine jw_callV [(jb_v l1)] jM107 jq107_35 rfl rfl (jo_57 s.1) rfl jM62 rfl rfl ?_
          obtain ⟨x6, b7, h7⟩ := jo_b h5
          refine jd62 hl1 b7 (fun σ6 s6 => ?_) σ s
          show jb_w (d + 7) 107 38 [some (.ref 2), some (jb_v l1)] [] σ6 Q
          cases h7
          exact jw_vret jM107 jq107_38 (k σ6 s6 (fun _ z => by cases z; exact jb_r0))
        · have h5 := jo_n c5 h4
          cases h5
          exact jb_throw (k := 1) jM107 jq107_20 rfl (Nat.le_add_left_of_le (by decide)) (k _ (s.cost 1 6) (fun _ z => by cases z))
      · have h3 := jo_n c3 h2
        cases h3
        exact jb_throw (k := 1) jM137 jq137_7 rfl (Nat.le_add_left_of_le (by decide)) (k _ (s.cost 1 6) (fun _ z => by cases z))
    · have h2 := jo_n c2 h1
      cases h2
      exact jb_throw (k := 0) jM134 jq134_9 rfl (Nat.le_add_left_of_le (by decide)) (k _ (s.cost 1 6) (fun _ z => by cases z))
-- 141 PageLoom.fall need 2
def fc141 (K : jc_K) : Option (jc_K × Int) := (fc1 (jc_ui K 2 8 1) ).bind fun x2 => (fc21 (x2.1) ).bind fun x4 => (fc64 (x4.1) ).bind fun x6 => some (x6.1, 0)
theorem jd141 {d : Nat} {σ0 : ib_H} {Q : ib_O → Prop} {K : jc_K} {r : (jc_K × Int)} (h : fc141 K  = some r) (k : ∀ σ, jc_S σ0 r.1 σ → Q (.inl none, σ)) : jc_W σ0 K (d + 2) 141 0 [some (.ref 2)] [] Q := by
  intro σ s
  unfold fc141 at h
  refine jaL0 (p := 1) rfl jM141 jq141_0 ?_
  refine jw_iconst (p := 2) rfl jM141 jq141_1 ?_
  refine jc_putI (p := 5) (i := 8) rfl jM141 jq141_2 rfl (jo_2 s.1) (Or.inr ⟨jy_10_8, Or.inr rfl⟩) s (by decide) (by decide) (jb_rn rfl) ?_
  intro σ1 s1
  refine jaL0 (p := 6) rfl jM141 jq141_5 ?_
  refine jw_getP (p := 9) (i := 3) (q := 66) rfl jM141 jq141_6 rfl (jo_2 s1.1) je_10_3 (jp_2_3 s1.1) ?_
  refine jw_callV [] jM141 jq141_9 rfl rfl (jo_66 s1.1) rfl jM1 rfl rfl ?_
  obtain ⟨x2, b3, h3⟩ := jo_b h
  refine jd1  b3 (fun σ2 s2 => ?_) σ1 s1
  show jb_w (d + 2) 141 12 [some (.ref 2)] [] σ2 Q
  refine jaL0 (p := 13) rfl jM141 jq141_12 ?_
  refine jw_getP (p := 16) (i := 2) (q := 63) rfl jM141 jq141_13 rfl (jo_2 s2.1) je_10_2 (jp_2_2 s2.1) ?_
  refine jw_callV [] jM141 jq141_16 rfl rfl (jo_63 s2.1) rfl jM21 rfl rfl ?_
  obtain ⟨x4, b5, h5⟩ := jo_b h3
  refine jd21  b5 (fun σ4 s4 => ?_) σ2 s2
  show jb_w (d + 2) 141 19 [some (.ref 2)] [] σ4 Q
  refine jaL0 (p := 20) rfl jM141 jq141_19 ?_
  refine jw_getP (p := 23) (i := 1) (q := 57) rfl jM141 jq141_20 rfl (jo_2 s4.1) je_10_1 (jp_2_1 s4.1) ?_
  refine jw_callV [] jM141 jq141_23 rfl rfl (jo_57 s4.1) rfl jM64 rfl rfl ?_
  obtain ⟨x6, b7, h7⟩ := jo_b h5
  refine jd64  b7 (fun σ6 s6 => ?_) σ4 s4
  show jb_w (d + 2) 141 26 [some (.ref 2)] [] σ6 Q
  cases h7
  exact jw_vret jM141 jq141_26 (k σ6 s6)
-- 140 PageLoom.told need 3
def fc140 (K : jc_K) (l1 : Int) : Option (jc_K × Int) := if l1 = (-4) then ((fc141 K ).bind fun x2 => some (x2.1, l1)) else (some (K, l1))
theorem jd140 {d : Nat} {σ0 : ib_H} {Q : ib_O → Prop} {K : jc_K} {l1 : Int} (hl1 : jb_r l1) {r : (jc_K × Int)} (h : fc140 K l1 = some r) (k : ∀ σ, jc_S σ0 r.1 σ → jb_r r.2 → Q (.inl (some (jb_v r.2)), σ)) : jc_W σ0 K (d + 3) 140 0 [some (.ref 2), some (jb_v l1)] [] Q := by
  intro σ s
  unfold fc140 at h
  refine jiL1 (p := 1) rfl jM140 jq140_0 ?_
  refine jw_bipush (p := 3) rfl jM140 jq140_1 (by decide) ?_
  refine jw_ic (p := 6) rfl jM140 jq140_3 (jc_ne hl1 (jb_rn rfl)) (fun c1 => ?_) (fun c1 => ?_)
  · have h1 := jo_n c1 h
    refine jiL1 (p := 11) rfl jM140 jq140_10 ?_
    cases h1
    exact jw_iret jM140 jq140_11 (fun z => absurd z (by decide)) (k σ s hl1)
  · have h1 := jo_p (Decidable.byContradiction c1) h
    refine jaL0 (p := 7) rfl jM140 jq140_6 ?_
    refine jw_callV [] jM140 jq140_7 rfl rfl (jo_2 s.1) rfl jM141 rfl rfl ?_
    obtain ⟨x2, b3, h3⟩ := jo_b h1
    refine jd141  b3 (fun σ2 s2 => ?_) σ s
    show jb_w (d + 3) 140 10 [some (.ref 2), some (jb_v l1)] [] σ2 Q
    refine jiL1 (p := 11) rfl jM140 jq140_10 ?_
    cases h3
    exact jw_iret jM140 jq140_11 (fun z => absurd z (by decide)) (k σ2 s2 hl1)
-- 142 PageLoom.lock need 6
def fc142_12 : Nat → jc_K → Int → Int → Int → Option (jc_K × Int)
  | 0, _, _, _, _ => none
  | m + 1, K, l1, l2, l3 => if 4 ≤ l3 then (some (K, (-2))) else (if 0 ≤ l2 ∧ l2 < 32 then if jc_i K 62 l2 = (-1) then (some (jc_ui K 62 l2 l1, 0)) else (if jc_i K 62 l2 = l1 then (some (jc_ui K 62 l2 l1, 0)) else (if 0 ≤ l1 ∧ l1 < 4 then (fc66 (jc_ui K 61 l1 (jc_i K 62 l2)) l1).bind fun x8 => if x8.2 = (-1) then (some (x8.1, (-2))) else ((fc90 (x8.1) (x8.2)).bind fun x11 => (fc92 (x11.1) 0 1).bind fun x13 => if x13.2 = 0 then (some (x13.1, (-4))) else (if x8.2 = l1 then (some (x13.1, (-3))) else (if -2147483648 ≤ (l3 + 1) ∧ (l3 + 1) < 2147483648 then fc142_12 m (x13.1) l1 l2 (l3 + 1) else none))) else none)) else none)
theorem jd142_12 {d : Nat} {σ0 : ib_H} {Q : ib_O → Prop} : ∀ (m : Nat) {K : jc_K} {l1 : Int} {l2 : Int} {l3 : Int} {o4 : Option Value} {o5 : Option Value} (hl1 : jb_r l1) (hl2 : jb_r l2) (hl3 : jb_r l3) {r : (jc_K × Int)} (h : fc142_12 m K l1 l2 l3 = some r) (k : ∀ σ, jc_S σ0 r.1 σ → jb_r r.2 → Q (.inl (some (jb_v r.2)), σ)), jc_W σ0 K (d + 6) 142 12 [some (.ref 2), some (jb_v l1), some (jb_v l2), some (jb_v l3), o4, o5] [] Q := by
  intro m
  induction m with
  | zero =>
    intro K l1 l2 l3 o4 o5 hl1 hl2 hl3 r h k
    cases h
  | succ m ih =>
    intro K l1 l2 l3 o4 o5 hl1 hl2 hl3 r h k σ s
    unfold fc142_12 at h
    refine jiL3 (p := 13) rfl jM142 jq142_12 ?_
    refine jw_iconst (p := 14) rfl jM142 jq142_13 ?_
    refine jw_ic (p := 17) rfl jM142 jq142_14 (jc_ge hl3 (jb_rn rfl)) (fun c1 => ?_) (fun c1 => ?_)
    · have h1 := jo_p c1 h
      refine jw_bipush (p := 123) rfl jM142 jq142_121 (by decide) ?_
      cases h1
      exact jw_iret jM142 jq142_123 (fun z => absurd z (by decide)) (k σ s (jb_rn rfl))
    · have h1 := jo_n c1 h
      refine jaL0 (p := 18) rfl jM142 jq142_17 ?_
      refine jw_getP (p := 21) (i := 1) (q := 57) rfl jM142 jq142_18 rfl (jo_2 s.1) je_10_1 (jp_2_1 s.1) ?_
      refine jw_getP (p := 24) (i := 4) (q := 62) rfl jM142 jq142_21 rfl (jo_57 s.1) je_6_4 (jp_57_4 s.1) ?_
      refine jiL2 (p := 25) rfl jM142 jq142_24 ?_
      obtain ⟨c2, h2⟩ := jo_i h1
      refine jc_iald (p := 26) rfl jM142 jq142_25 (ja_62 s.1) c2.1 c2.2 s (by decide) rfl ?_
      refine jiS4 (p := 28) rfl jM142 jq142_26 ?_
      refine jiL4 (p := 30) rfl jM142 jq142_28 ?_
      refine jw_iconst (p := 31) rfl jM142 jq142_30 ?_
      refine jw_ic (p := 34) rfl jM142 jq142_31 (jc_eq (s.r _ _) (jb_rn rfl)) (fun c3 => ?_) (fun c3 => ?_)
      · have h3 := jo_p c3 h2
        refine jaL0 (p := 41) rfl jM142 jq142_40 ?_
        refine jw_getP (p := 44) (i := 1) (q := 57) rfl jM142 jq142_41 rfl (jo_2 s.1) je_10_1 (jp_2_1 s.1) ?_
        refine jw_getP (p := 47) (i := 4) (q := 62) rfl jM142 jq142_44 rfl (jo_57 s.1) je_6_4 (jp_57_4 s.1) ?_
        refine jiL2 (p := 48) rfl jM142 jq142_47 ?_
        refine jiL1 (p := 49) rfl jM142 jq142_48 ?_
        refine jc_iast (p := 50) rfl jM142 jq142_49 (ja_62 s.1) c2.1 c2.2 s (by decide) hl1 ?_
        intro σ4 s4
        refine jw_iconst (p := 51) rfl jM142 jq142_50 ?_
        cases h3
        exact jw_iret jM142 jq142_51 (fun z => absurd z (by decide)) (k σ4 s4 (jb_rn rfl))
      · have h3 := jo_n c3 h2
        refine jiL4 (p := 36) rfl jM142 jq142_34 ?_
        refine jiL1 (p := 37) rfl jM142 jq142_36 ?_
        refine jw_ic (p := 40) rfl jM142 jq142_37 (jc_ne (s.r _ _) hl1) (fun c5 => ?_) (fun c5 => ?_)
        · have h5 := jo_n c5 h3
          refine jaL0 (p := 53) rfl jM142 jq142_52 ?_
          refine jw_getP (p := 56) (i := 1) (q := 57) rfl jM142 jq142_53 rfl (jo_2 s.1) je_10_1 (jp_2_1 s.1) ?_
          refine jw_getP (p := 59) (i := 3) (q := 61) rfl jM142 jq142_56 rfl (jo_57 s.1) je_6_3 (jp_57_3 s.1) ?_
          refine jiL1 (p := 60) rfl jM142 jq142_59 ?_
          refine jiL4 (p := 62) rfl jM142 jq142_60 ?_
          obtain ⟨c6, h6⟩ := jo_i h5
          refine jc_iast (p := 63) rfl jM142 jq142_62 (ja_61 s.1) c6.1 c6.2 s (by decide) (s.r _ _) ?_
          intro σ7 s7
          refine jaL0 (p := 64) rfl jM142 jq142_63 ?_
          refine jw_getP (p := 67) (i := 1) (q := 57) rfl jM142 jq142_64 rfl (jo_2 s7.1) je_10_1 (jp_2_1 s7.1) ?_
          refine jiL1 (p := 68) rfl jM142 jq142_67 ?_
          refine jw_callV [(jb_v l1)] jM142 jq142_68 rfl rfl (jo_57 s7.1) rfl jM66 rfl rfl ?_
          obtain ⟨x8, b9, h9⟩ := jo_b h6
          refine jd66 hl1 b9 (fun σ8 s8 r8 => ?_) σ7 s7
          show jb_w (d + 6) 142 71 [some (.ref 2), some (jb_v l1), some (jb_v l2), some (jb_v l3), some (jb_v (jc_i K 62 l2)), o5] [(jb_v (x8.2))] σ8 Q
          refine jiS5 (p := 73) rfl jM142 jq142_71 ?_
          refine jiL5 (p := 75) rfl jM142 jq142_73 ?_
          refine jw_iconst (p := 76) rfl jM142 jq142_75 ?_
          refine jw_ic (p := 79) rfl jM142 jq142_76 (jc_ne r8 (jb_rn rfl)) (fun c10 => ?_) (fun c10 => ?_)
          · have h10 := jo_n c10 h9
            refine jaL0 (p := 83) rfl jM142 jq142_82 ?_
            refine jw_getP (p := 86) (i := 5) (q := 81) rfl jM142 jq142_83 rfl (jo_2 s8.1) je_10_5 (jp_2_5 s8.1) ?_
            refine jiL5 (p := 88) rfl jM142 jq142_86 ?_
            refine jw_callV [(jb_v (x8.2))] jM142 jq142_88 rfl rfl (jo_81 s8.1) rfl jM90 rfl rfl ?_
            obtain ⟨x11, b12, h12⟩ := jo_b h10
            refine jd90 r8 b12 (fun σ11 s11 => ?_) σ8 s8
            show jb_w (d + 6) 142 91 [some (.ref 2), some (jb_v l1), some (jb_v l2), some (jb_v l3), some (jb_v (jc_i K 62 l2)), some (jb_v (x8.2))] [] σ11 Q
            refine jaL0 (p := 92) rfl jM142 jq142_91 ?_
            refine jw_getP (p := 95) (i := 5) (q := 81) rfl jM142 jq142_92 rfl (jo_2 s11.1) je_10_5 (jp_2_5 s11.1) ?_
            refine jw_iconst (p := 96) rfl jM142 jq142_95 ?_
            refine jw_iconst (p := 97) rfl jM142 jq142_96 ?_
            refine jw_callV [(jb_v 0), (jb_v 1)] jM142 jq142_97 rfl rfl (jo_81 s11.1) rfl jM92 rfl rfl ?_
            obtain ⟨x13, b14, h14⟩ := jo_b h12
            refine jd92 (jb_rn rfl) (jb_rn rfl) b14 (fun σ13 s13 r13 => ?_) σ11 s11
            show jb_w (d + 6) 142 100 [some (.ref 2), some (jb_v l1), some (jb_v l2), some (jb_v l3), some (jb_v (jc_i K 62 l2)), some (jb_v (x8.2))] [(jb_v (x13.2))] σ13 Q
            refine jw_if (p := 103) rfl jM142 jq142_100 (jc_ne r13 jb_r0) (fun c15 => ?_) (fun c15 => ?_)
            · have h15 := jo_n c15 h14
              refine jiL5 (p := 108) rfl jM142 jq142_106 ?_
              refine jiL1 (p := 109) rfl jM142 jq142_108 ?_
              refine jw_ic (p := 112) rfl jM142 jq142_109 (jc_ne r8 hl1) (fun c16 => ?_) (fun c16 => ?_)
              · have h16 := jo_n c16 h15
                refine jiI3 (p := 118) rfl jM142 jq142_115 ?_
                refine jw_goto jM142 jq142_118 ?_
                obtain ⟨c17, h17⟩ := jo_i h16
                exact ih hl1 hl2 c17 h17 k σ13 s13
              · have h16 := jo_p (Decidable.byContradiction c16) h15
                refine jw_bipush (p := 114) rfl jM142 jq142_112 (by decide) ?_
                cases h16
                exact jw_iret jM142 jq142_114 (fun z => absurd z (by decide)) (k σ13 s13 (jb_rn rfl))
            · have h15 := jo_p (Decidable.byContradiction c15) h14
              refine jw_bipush (p := 105) rfl jM142 jq142_103 (by decide) ?_
              cases h15
              exact jw_iret jM142 jq142_105 (fun z => absurd z (by decide)) (k σ13 s13 (jb_rn rfl))
          · have h10 := jo_p (Decidable.byContradiction c10) h9
            refine jw_bipush (p := 81) rfl jM142 jq142_79 (by decide) ?_
            cases h10
            exact jw_iret jM142 jq142_81 (fun z => absurd z (by decide)) (k σ8 s8 (jb_rn rfl))
        · have h5 := jo_p (Decidable.byContradiction c5) h3
          refine jaL0 (p := 41) rfl jM142 jq142_40 ?_
          refine jw_getP (p := 44) (i := 1) (q := 57) rfl jM142 jq142_41 rfl (jo_2 s.1) je_10_1 (jp_2_1 s.1) ?_
          refine jw_getP (p := 47) (i := 4) (q := 62) rfl jM142 jq142_44 rfl (jo_57 s.1) je_6_4 (jp_57_4 s.1) ?_
          refine jiL2 (p := 48) rfl jM142 jq142_47 ?_
          refine jiL1 (p := 49) rfl jM142 jq142_48 ?_
          refine jc_iast (p := 50) rfl jM142 jq142_49 (ja_62 s.1) c2.1 c2.2 s (by decide) hl1 ?_
          intro σ18 s18
          refine jw_iconst (p := 51) rfl jM142 jq142_50 ?_
          cases h5
          exact jw_iret jM142 jq142_51 (fun z => absurd z (by decide)) (k σ18 s18 (jb_rn rfl))
def fc142 (K : jc_K) (l1 : Int) (l2 : Int) : Option (jc_K × Int) := if 0 ≤ l1 ∧ l1 < 4 then fc142_12 jo_N (jc_ui K 61 l1 (-1)) l1 l2 0 else none
theorem jd142 {d : Nat} {σ0 : ib_H} {Q : ib_O → Prop} {K : jc_K} {l1 : Int} {l2 : Int} (hl1 : jb_r l1) (hl2 : jb_r l2) {r : (jc_K × Int)} (h : fc142 K l1 l2 = some r) (k : ∀ σ, jc_S σ0 r.1 σ → jb_r r.2 → Q (.inl (some (jb_v r.2)), σ)) : jc_W σ0 K (d + 6) 142 0 [some (.ref 2), some (jb_v l1), some (jb_v l2), none, none, none] [] Q := by
  intro σ s
  unfold fc142 at h
  refine jaL0 (p := 1) rfl jM142 jq142_0 ?_
  refine jw_getP (p := 4) (i := 1) (q := 57) rfl jM142 jq142_1 rfl (jo_2 s.1) je_10_1 (jp_2_1 s.1) ?_
  refine jw_getP (p := 7) (i := 3) (q := 61) rfl jM142 jq142_4 rfl (jo_57 s.1) je_6_3 (jp_57_3 s.1) ?_
  refine jiL1 (p := 8) rfl jM142 jq142_7 ?_
  refine jw_iconst (p := 9) rfl jM142 jq142_8 ?_
  obtain ⟨c1, h1⟩ := jo_i h
  refine jc_iast (p := 10) rfl jM142 jq142_9 (ja_61 s.1) c1.1 c1.2 s (by decide) (jb_rn rfl) ?_
  intro σ2 s2
  refine jw_iconst (p := 11) rfl jM142 jq142_10 ?_
  refine jiS3 (p := 12) rfl jM142 jq142_11 ?_
  exact jd142_12 jo_N hl1 hl2 (jb_rn rfl) h1 k σ2 s2
