/-! the class as functions: written by wip/tools/genc.py (gc1.py) -/
-- 143 PageLoom.splitFor need 6
def fc143_2 : Nat → jc_K → Int → Int → Option (jc_K × Int)
  | 0, _, _, _ => none
  | m + 1, K, l1, l2 => if 24 < l2 then (some (K, (-5))) else ((fc71 K l1).bind fun x2 => if x2.2 = 0 then (some (x2.1, (-4))) else ((fc73 (x2.1) l1).bind fun x5 => if x5.2 = 0 then (some (x5.1, 0)) else ((fc74 (x5.1) ).bind fun x8 => (fc76 (x8.1) (x8.2)).bind fun x10 => if x10.2 = 0 then (some (x10.1, (-5))) else ((fc77 (x10.1) (x8.2)).bind fun x13 => if x13.2 = 0 then (some (x13.1, (-4))) else (if -2147483648 ≤ (l2 + 1) ∧ (l2 + 1) < 2147483648 then fc143_2 m (x13.1) l1 (l2 + 1) else none)))))
theorem jd143_2 {d : Nat} {σ0 : ib_H} {Q : ib_O → Prop} : ∀ (m : Nat) {K : jc_K} {l1 : Int} {l2 : Int} {o3 : Option Value} (hl1 : jb_r l1) (hl2 : jb_r l2) {r : (jc_K × Int)} (h : fc143_2 m K l1 l2 = some r) (k : ∀ σ, jc_S σ0 r.1 σ → jb_r r.2 → Q (.inl (some (jb_v r.2)), σ)), jc_W σ0 K (d + 6) 143 2 [some (.ref 2), some (jb_v l1), some (jb_v l2), o3] [] Q := by
  intro m
  induction m with
  | zero =>
    intro K l1 l2 o3 hl1 hl2 r h k
    cases h
  | succ m ih =>
    intro K l1 l2 o3 hl1 hl2 r h k σ s
    unfold fc143_2 at h
    refine jiL2 (p := 3) rfl jM143 jq143_2 ?_
    refine jw_bipush (p := 5) rfl jM143 jq143_3 (by decide) ?_
    refine jw_ic (p := 8) rfl jM143 jq143_5 (jc_gt hl2 (jb_rn rfl)) (fun c1 => ?_) (fun c1 => ?_)
    · have h1 := jo_p c1 h
      refine jw_bipush (p := 79) rfl jM143 jq143_77 (by decide) ?_
      cases h1
      exact jw_iret jM143 jq143_79 (fun z => absurd z (by decide)) (k σ s (jb_rn rfl))
    · have h1 := jo_n c1 h
      refine jaL0 (p := 9) rfl jM143 jq143_8 ?_
      refine jw_getP (p := 12) (i := 4) (q := 79) rfl jM143 jq143_9 rfl (jo_2 s.1) je_10_4 (jp_2_4 s.1) ?_
      refine jiL1 (p := 13) rfl jM143 jq143_12 ?_
      refine jw_callV [(jb_v l1)] jM143 jq143_13 rfl rfl (jo_79 s.1) rfl jM71 rfl rfl ?_
      obtain ⟨x2, b3, h3⟩ := jo_b h1
      refine jd71 hl1 b3 (fun σ2 s2 r2 => ?_) σ s
      show jb_w (d + 6) 143 16 [some (.ref 2), some (jb_v l1), some (jb_v l2), o3] [(jb_v (x2.2))] σ2 Q
      refine jw_if (p := 19) rfl jM143 jq143_16 (jc_ne r2 jb_r0) (fun c4 => ?_) (fun c4 => ?_)
      · have h4 := jo_n c4 h3
        refine jaL0 (p := 23) rfl jM143 jq143_22 ?_
        refine jw_getP (p := 26) (i := 4) (q := 79) rfl jM143 jq143_23 rfl (jo_2 s2.1) je_10_4 (jp_2_4 s2.1) ?_
        refine jiL1 (p := 27) rfl jM143 jq143_26 ?_
        refine jw_callV [(jb_v l1)] jM143 jq143_27 rfl rfl (jo_79 s2.1) rfl jM73 rfl rfl ?_
        obtain ⟨x5, b6, h6⟩ := jo_b h4
        refine jd73 hl1 b6 (fun σ5 s5 r5 => ?_) σ2 s2
        show jb_w (d + 6) 143 30 [some (.ref 2), some (jb_v l1), some (jb_v l2), o3] [(jb_v (x5.2))] σ5 Q
        refine jw_if (p := 33) rfl jM143 jq143_30 (jc_ne r5 jb_r0) (fun c7 => ?_) (fun c7 => ?_)
        · have h7 := jo_n c7 h6
          refine jaL0 (p := 36) rfl jM143 jq143_35 ?_
          refine jw_getP (p := 39) (i := 4) (q := 79) rfl jM143 jq143_36 rfl (jo_2 s5.1) je_10_4 (jp_2_4 s5.1) ?_
          refine jw_callV [] jM143 jq143_39 rfl rfl (jo_79 s5.1) rfl jM74 rfl rfl ?_
          obtain ⟨x8, b9, h9⟩ := jo_b h7
          refine jd74  b9 (fun σ8 s8 r8 => ?_) σ5 s5
          show jb_w (d + 6) 143 42 [some (.ref 2), some (jb_v l1), some (jb_v l2), o3] [(jb_v (x8.2))] σ8 Q
          refine jiS3 (p := 43) rfl jM143 jq143_42 ?_
          refine jaL0 (p := 44) rfl jM143 jq143_43 ?_
          refine jw_getP (p := 47) (i := 4) (q := 79) rfl jM143 jq143_44 rfl (jo_2 s8.1) je_10_4 (jp_2_4 s8.1) ?_
          refine jiL3 (p := 48) rfl jM143 jq143_47 ?_
          refine jw_callV [(jb_v (x8.2))] jM143 jq143_48 rfl rfl (jo_79 s8.1) rfl jM76 rfl rfl ?_
          obtain ⟨x10, b11, h11⟩ := jo_b h9
          refine jd76 r8 b11 (fun σ10 s10 r10 => ?_) σ8 s8
          show jb_w (d + 6) 143 51 [some (.ref 2), some (jb_v l1), some (jb_v l2), some (jb_v (x8.2))] [(jb_v (x10.2))] σ10 Q
          refine jw_if (p := 54) rfl jM143 jq143_51 (jc_ne r10 jb_r0) (fun c12 => ?_) (fun c12 => ?_)
          · have h12 := jo_n c12 h11
            refine jaL0 (p := 58) rfl jM143 jq143_57 ?_
            refine jw_getP (p := 61) (i := 4) (q := 79) rfl jM143 jq143_58 rfl (jo_2 s10.1) je_10_4 (jp_2_4 s10.1) ?_
            refine jiL3 (p := 62) rfl jM143 jq143_61 ?_
            refine jw_callV [(jb_v (x8.2))] jM143 jq143_62 rfl rfl (jo_79 s10.1) rfl jM77 rfl rfl ?_
            obtain ⟨x13, b14, h14⟩ := jo_b h12
            refine jd77 r8 b14 (fun σ13 s13 r13 => ?_) σ10 s10
            show jb_w (d + 6) 143 65 [some (.ref 2), some (jb_v l1), some (jb_v l2), some (jb_v (x8.2))] [(jb_v (x13.2))] σ13 Q
            refine jw_if (p := 68) rfl jM143 jq143_65 (jc_ne r13 jb_r0) (fun c15 => ?_) (fun c15 => ?_)
            · have h15 := jo_n c15 h14
              refine jiI2 (p := 74) rfl jM143 jq143_71 ?_
              refine jw_goto jM143 jq143_74 ?_
              obtain ⟨c16, h16⟩ := jo_i h15
              exact ih hl1 c16 h16 k σ13 s13
            · have h15 := jo_p (Decidable.byContradiction c15) h14
              refine jw_bipush (p := 70) rfl jM143 jq143_68 (by decide) ?_
              cases h15
              exact jw_iret jM143 jq143_70 (fun z => absurd z (by decide)) (k σ13 s13 (jb_rn rfl))
          · have h12 := jo_p (Decidable.byContradiction c12) h11
            refine jw_bipush (p := 56) rfl jM143 jq143_54 (by decide) ?_
            cases h12
            exact jw_iret jM143 jq143_56 (fun z => absurd z (by decide)) (k σ10 s10 (jb_rn rfl))
        · have h7 := jo_p (Decidable.byContradiction c7) h6
          refine jw_iconst (p := 34) rfl jM143 jq143_33 ?_
          cases h7
          exact jw_iret jM143 jq143_34 (fun z => absurd z (by decide)) (k σ5 s5 (jb_rn rfl))
      · have h4 := jo_p (Decidable.byContradiction c4) h3
        refine jw_bipush (p := 21) rfl jM143 jq143_19 (by decide) ?_
        cases h4
        exact jw_iret jM143 jq143_21 (fun z => absurd z (by decide)) (k σ2 s2 (jb_rn rfl))
def fc143 (K : jc_K) (l1 : Int) : Option (jc_K × Int) := fc143_2 jo_N K l1 0
theorem jd143 {d : Nat} {σ0 : ib_H} {Q : ib_O → Prop} {K : jc_K} {l1 : Int} (hl1 : jb_r l1) {r : (jc_K × Int)} (h : fc143 K l1 = some r) (k : ∀ σ, jc_S σ0 r.1 σ → jb_r r.2 → Q (.inl (some (jb_v r.2)), σ)) : jc_W σ0 K (d + 6) 143 0 [some (.ref 2), some (jb_v l1), none, none] [] Q := by
  intro σ s
  unfold fc143 at h
  refine jw_iconst (p := 1) rfl jM143 jq143_0 ?_
  refine jiS2 (p := 2) rfl jM143 jq143_1 ?_
  exact jd143_2 jo_N hl1 (jb_rn rfl) h k σ s
-- 144 PageLoom.changeLeaf need 4
def fc144 (K : jc_K) (l1 : Int) (l2 : Int) (l3 : Int) : Option (jc_K × Int) := (fc20 K 0 l1).bind fun x1 => if x1.2 = 0 then (some (x1.1, 0)) else (if jc_rc (x1.1) (x1.2) then (fc72 (jc_ui (x1.1) (x1.2) 3 l2) l2).bind fun x6 => if jc_rc (x6.1) (x1.2) then (fc70 (jc_ui (jc_ui (x6.1) (x1.2) 4 (x6.2)) (x1.2) 5 l3) ).bind fun x11 => if jc_rc (x11.1) (x1.2) then (fc26 (x11.1) (x1.2) (x11.2)).bind fun x14 => (fc80 (x14.1) (jc_i (x14.1) 63 4)).bind fun x16 => if x16.2 = 0 ∨ x16.2 = 1 then some (x16.1, x16.2) else none else none else none else none)
theorem jd144 {d : Nat} {σ0 : ib_H} {Q : ib_O → Prop} {K : jc_K} {l1 : Int} {l2 : Int} {l3 : Int} (hl1 : jb_r l1) (hl2 : jb_r l2) (hl3 : jb_r l3) {r : (jc_K × Int)} (h : fc144 K l1 l2 l3 = some r) (k : ∀ σ, jc_S σ0 r.1 σ → jb_r r.2 → Q (.inl (some (jb_v r.2)), σ)) : jc_W σ0 K (d + 4) 144 0 [some (.ref 2), some (jb_v l1), some (jb_v l2), some (jb_v l3), none] [] Q := by
  intro σ s
  unfold fc144 at h
  refine jaL0 (p := 1) rfl jM144 jq144_0 ?_
  refine jw_getP (p := 4) (i := 2) (q := 63) rfl jM144 jq144_1 rfl (jo_2 s.1) je_10_2 (jp_2_2 s.1) ?_
  refine jw_iconst (p := 5) rfl jM144 jq144_4 ?_
  refine jiL1 (p := 6) rfl jM144 jq144_5 ?_
  refine jw_callV [(jb_v 0), (jb_v l1)] jM144 jq144_6 rfl rfl (jo_63 s.1) rfl jM20 rfl rfl ?_
  obtain ⟨x1, b2, h2⟩ := jo_b h
  refine jd20 (jb_rn rfl) hl1 b2 (fun σ1 s1 => ?_) σ s
  show jb_w (d + 4) 144 9 [some (.ref 2), some (jb_v l1), some (jb_v l2), some (jb_v l3), none] [(.ref (x1.2))] σ1 Q
  refine jaS4 (p := 11) rfl jM144 jq144_9 ?_
  refine jaL4 (p := 13) rfl jM144 jq144_11 ?_
  refine jw_ifnonnull (p := 16) rfl jM144 jq144_13 (fun c3 => ?_) (fun c3 => ?_)
  · have h3 := jo_n c3 h2
    refine jaL4 (p := 20) rfl jM144 jq144_18 ?_
    refine jiL2 (p := 21) rfl jM144 jq144_20 ?_
    obtain ⟨c4, h4⟩ := jo_i h3
    refine jc_putI (p := 24) (i := 3) rfl jM144 jq144_21 rfl (s1.rc c4).ob (Or.inl jz_3_3) s1 (jc_rcd c4) (by decide) hl2 ?_
    intro σ5 s5
    refine jaL4 (p := 26) rfl jM144 jq144_24 ?_
    refine jaL0 (p := 27) rfl jM144 jq144_26 ?_
    refine jw_getP (p := 30) (i := 4) (q := 79) rfl jM144 jq144_27 rfl (jo_2 s5.1) je_10_4 (jp_2_4 s5.1) ?_
    refine jiL2 (p := 31) rfl jM144 jq144_30 ?_
    refine jw_callV [(jb_v l2)] jM144 jq144_31 rfl rfl (jo_79 s5.1) rfl jM72 rfl rfl ?_
    obtain ⟨x6, b7, h7⟩ := jo_b h4
    refine jd72 hl2 b7 (fun σ6 s6 r6 => ?_) σ5 s5
    show jb_w (d + 4) 144 34 [some (.ref 2), some (jb_v l1), some (jb_v l2), some (jb_v l3), some (.ref (x1.2))] [(jb_v (x6.2)), (.ref (x1.2))] σ6 Q
    obtain ⟨c8, h8⟩ := jo_i h7
    refine jc_putI (p := 37) (i := 4) rfl jM144 jq144_34 rfl (s6.rc c8).ob (Or.inl jz_3_4) s6 (jc_rcd c8) (by decide) r6 ?_
    intro σ9 s9
    refine jaL4 (p := 39) rfl jM144 jq144_37 ?_
    refine jiL3 (p := 40) rfl jM144 jq144_39 ?_
    refine jc_putI (p := 43) (i := 5) rfl jM144 jq144_40 rfl (s9.rc c8).ob (Or.inl jz_3_5) s9 (jc_rcd c8) (by decide) hl3 ?_
    intro σ10 s10
    refine jaL4 (p := 45) rfl jM144 jq144_43 ?_
    refine jaL0 (p := 46) rfl jM144 jq144_45 ?_
    refine jw_getP (p := 49) (i := 4) (q := 79) rfl jM144 jq144_46 rfl (jo_2 s10.1) je_10_4 (jp_2_4 s10.1) ?_
    refine jw_callV [] jM144 jq144_49 rfl rfl (jo_79 s10.1) rfl jM70 rfl rfl ?_
    obtain ⟨x11, b12, h12⟩ := jo_b h8
    refine jd70  b12 (fun σ11 s11 r11 => ?_) σ10 s10
    show jb_w (d + 4) 144 52 [some (.ref 2), some (jb_v l1), some (jb_v l2), some (jb_v l3), some (.ref (x1.2))] [(jb_v (x11.2)), (.ref (x1.2))] σ11 Q
    obtain ⟨c13, h13⟩ := jo_i h12
    refine jw_callV [(jb_v (x11.2))] jM144 jq144_52 rfl rfl (s11.rc c13).ob rfl jM26 rfl rfl ?_
    obtain ⟨x14, b15, h15⟩ := jo_b h13
    refine jd26 r11 b15 (fun σ14 s14 => ?_) σ11 s11
    show jb_w (d + 4) 144 55 [some (.ref 2), some (jb_v l1), some (jb_v l2), some (jb_v l3), some (.ref (x1.2))] [] σ14 Q
    refine jaL0 (p := 56) rfl jM144 jq144_55 ?_
    refine jw_getP (p := 59) (i := 4) (q := 79) rfl jM144 jq144_56 rfl (jo_2 s14.1) je_10_4 (jp_2_4 s14.1) ?_
    refine jaL0 (p := 60) rfl jM144 jq144_59 ?_
    refine jw_getP (p := 63) (i := 2) (q := 63) rfl jM144 jq144_60 rfl (jo_2 s14.1) je_10_2 (jp_2_2 s14.1) ?_
    refine jc_getI (p := 66) (i := 4) rfl jM144 jq144_63 rfl (jo_63 s14.1) jn_2_4 s14 (by decide) (by decide) rfl ?_
    refine jw_callV [(jb_v (jc_i (x14.1) 63 4))] jM144 jq144_66 rfl rfl (jo_79 s14.1) rfl jM80 rfl rfl ?_
    obtain ⟨x16, b17, h17⟩ := jo_b h15
    refine jd80 (s14.r _ _) b17 (fun σ16 s16 r16 => ?_) σ14 s14
    show jb_w (d + 4) 144 69 [some (.ref 2), some (jb_v l1), some (jb_v l2), some (jb_v l3), some (.ref (x1.2))] [(jb_v (x16.2))] σ16 Q
    obtain ⟨c18, h18⟩ := jo_i h17
    cases h18
    exact jw_iret jM144 jq144_69 (fun _ => c18) (k σ16 s16 r16)
  · have h3 := jo_p c3 h2
    refine jw_iconst (p := 17) rfl jM144 jq144_16 ?_
    cases h3
    exact jw_iret jM144 jq144_17 (fun _ => Or.inl rfl) (k σ1 s1 (jb_rn rfl))
-- 108 PageLoom.put need 8
def fc108 (K : jc_K) (l1 : Int) (l2 : Int) (l3 : Int) : Option (jc_K × (Int ⊕ Nat)) := if l1 < 0 then (some (jc_cost K 1 6, .inr 0)) else (if l1 < 4 then (if l2 < 0 then (some (jc_cost K 1 6, .inr 0)) else (if l2 < 32 then (if l3 < 0 then (some (jc_cost K 1 6, .inr 0)) else (if l3 < 1000 then (if jc_i K 2 8 = 0 then (if 0 ≤ l1 ∧ l1 < 4 then if jc_i K 58 l1 = 0 then (some (jc_cost K 1 6, .inr 1)) else (if jc_i K 63 4 < 200 then ((fc142 K l1 l2).bind fun x11 => if x11.2 = 0 then ((fc143 (x11.1) l2).bind fun x16 => if x16.2 = 0 then ((fc144 (x16.1) l1 l2 l3).bind fun x21 => if x21.2 = 0 then ((fc140 (x21.1) (-4)).bind fun x26 => some (x26.1, .inl (x26.2))) else ((fc140 (x21.1) (x16.2)).bind fun x24 => some (x24.1, .inl (x24.2)))) else ((fc140 (x16.1) (x16.2)).bind fun x19 => some (x19.1, .inl (x19.2)))) else ((fc140 (x11.1) (x11.2)).bind fun x14 => some (x14.1, .inl (x14.2)))) else (some (jc_cost K 1 6, .inr 1))) else none) else (some (jc_cost K 1 6, .inr 1))) else (some (jc_cost K 1 6, .inr 0)))) else (some (jc_cost K 1 6, .inr 0)))) else (some (jc_cost K 1 6, .inr 0)))
theorem jd108 {d : Nat} {σ0 : ib_H} {Q : ib_O → Prop} {K : jc_K} {l1 : Int} {l2 : Int} {l3 : Int} (hl1 : jb_r l1) (hl2 : jb_r l2) (hl3 : jb_r l3) {r : (jc_K × (Int ⊕ Nat))} (h : fc108 K l1 l2 l3 = some r) (k : ∀ σ, jc_S σ0 r.1 σ → (∀ v, r.2 = .inl v → jb_r v) → jc_E false r.2 σ Q) : jc_W σ0 K (d + 8) 108 0 [some (.ref 2), some (jb_v l1), some (jb_v l2), some (jb_v l3), none] [] Q := by
  intro σ s
  unfold fc108 at h
  refine jiL1 (p := 1) rfl jM108 jq108_0 ?_
  refine jw_callS [(jb_v l1)] jM108 jq108_1 rfl rfl rfl jM134 rfl rfl ?_
  show jb_w (d + 7) 134 0 [some (jb_v l1)] [] σ (jb_k (d + 8) 108 1 [some (.ref 2), some (jb_v l1), some (jb_v l2), some (jb_v l3), none] [] Q)
  refine jiL0 (p := 1) rfl jM134 jq134_0 ?_
  refine jw_if (p := 4) rfl jM134 jq134_1 (jc_lt hl1 jb_r0) (fun c1 => ?_) (fun c1 => ?_)
  · have h1 := jo_p c1 h
    cases h1
    exact jb_throw (k := 0) jM134 jq134_9 rfl (Nat.le_add_left_of_le (by decide)) (k _ (s.cost 1 6) (fun _ z => by cases z))
  · have h1 := jo_n c1 h
    refine jiL0 (p := 5) rfl jM134 jq134_4 ?_
    refine jw_iconst (p := 6) rfl jM134 jq134_5 ?_
    refine jw_ic (p := 9) rfl jM134 jq134_6 (jc_lt hl1 (jb_rn rfl)) (fun c2 => ?_) (fun c2 => ?_)
    · have h2 := jo_p c2 h1
      refine jw_vret jM134 jq134_20 ?_
      show jb_w (d + 8) 108 4 [some (.ref 2), some (jb_v l1), some (jb_v l2), some (jb_v l3), none] [] σ Q
      refine jiL2 (p := 5) rfl jM108 jq108_4 ?_
      refine jw_callS [(jb_v l2)] jM108 jq108_5 rfl rfl rfl jM135 rfl rfl ?_
      show jb_w (d + 7) 135 0 [some (jb_v l2)] [] σ (jb_k (d + 8) 108 5 [some (.ref 2), some (jb_v l1), some (jb_v l2), some (jb_v l3), none] [] Q)
      refine jiL0 (p := 1) rfl jM135 jq135_0 ?_
      refine jw_if (p := 4) rfl jM135 jq135_1 (jc_lt hl2 jb_r0) (fun c3 => ?_) (fun c3 => ?_)
      · have h3 := jo_p c3 h2
        cases h3
        exact jb_throw (k := 0) jM135 jq135_10 rfl (Nat.le_add_left_of_le (by decide)) (k _ (s.cost 1 6) (fun _ z => by cases z))
      · have h3 := jo_n c3 h2
        refine jiL0 (p := 5) rfl jM135 jq135_4 ?_
        refine jw_bipush (p := 7) rfl jM135 jq135_5 (by decide) ?_
        refine jw_ic (p := 10) rfl jM135 jq135_7 (jc_lt hl2 (jb_rn rfl)) (fun c4 => ?_) (fun c4 => ?_)
        · have h4 := jo_p c4 h3
          refine jw_vret jM135 jq135_21 ?_
          show jb_w (d + 8) 108 8 [some (.ref 2), some (jb_v l1), some (jb_v l2), some (jb_v l3), none] [] σ Q
          refine jiL3 (p := 9) rfl jM108 jq108_8 ?_
          refine jw_if (p := 12) rfl jM108 jq108_9 (jc_lt hl3 jb_r0) (fun c5 => ?_) (fun c5 => ?_)
          · have h5 := jo_p c5 h4
            cases h5
            exact jb_throw (k := 0) jM108 jq108_19 rfl (Nat.le_add_left_of_le (by decide)) (k _ (s.cost 1 6) (fun _ z => by cases z))
          · have h5 := jo_n c5 h4
            refine jiL3 (p := 13) rfl jM108 jq108_12 ?_
            refine jw_sipush (p := 16) rfl jM108 jq108_13 (by decide) ?_
            refine jw_ic (p := 19) rfl jM108 jq108_16 (jc_lt hl3 (jb_rn rfl)) (fun c6 => ?_) (fun c6 => ?_)
            · have h6 := jo_p c6 h5
              refine jaL0 (p := 30) rfl jM108 jq108_29 ?_
              refine jiL1 (p := 31) rfl jM108 jq108_30 ?_
              refine jw_callV [(jb_v l1)] jM108 jq108_31 rfl rfl (jo_2 s.1) rfl jM138 rfl rfl ?_
              show jb_w (d + 7) 138 0 [some (.ref 2), some (jb_v l1)] [] σ (jb_k (d + 8) 108 31 [some (.ref 2), some (jb_v l1), some (jb_v l2), some (jb_v l3), none] [] Q)
              refine jaL0 (p := 1) rfl jM138 jq138_0 ?_
              refine jw_callV [] jM138 jq138_1 rfl rfl (jo_2 s.1) rfl jM137 rfl rfl ?_
              show jb_w (d + 6) 137 0 [some (.ref 2)] [] σ (jb_k (d + 7) 138 1 [some (.ref 2), some (jb_v l1)] [] (jb_k (d + 8) 108 31 [some (.ref 2), some (jb_v l1), some (jb_v l2), some (jb_v l3), none] [] Q))
              refine jaL0 (p := 1) rfl jM137 jq137_0 ?_
              refine jc_getI (p := 4) (i := 8) rfl jM137 jq137_1 rfl (jo_2 s.1) jn_10_8 s (by decide) (by decide) rfl ?_
              refine jw_if (p := 7) rfl jM137 jq137_4 (jc_eq (s.r _ _) jb_r0) (fun c7 => ?_) (fun c7 => ?_)
              · have h7 := jo_p c7 h6
                refine jw_vret jM137 jq137_18 ?_
                show jb_w (d + 7) 138 4 [some (.ref 2), some (jb_v l1)] [] σ (jb_k (d + 8) 108 31 [some (.ref 2), some (jb_v l1), some (jb_v l2), some (jb_v l3), none] [] Q)
                refine jaL0 (p := 5) rfl jM138 jq138_4 ?_
                refine jw_getP (p := 8) (i := 1) (q := 57) rfl jM138 jq138_5 rfl (jo_2 s.1) je_10_1 (jp_2_1 s.1) ?_
                refine jw_getP (p := 11) (i := 0) (q := 58) rfl jM138 jq138_8 rfl (jo_57 s.1) je_6_0 (jp_57_0 s.1) ?_
                refine jiL1 (p := 12) rfl jM138 jq138_11 ?_
                obtain ⟨c8, h8⟩ := jo_i h7
                refine jc_bald (p := 13) rfl jM138 jq138_12 (ja_58 s.1) c8.1 c8.2 s (by decide) rfl ?_
                refine jw_if (p := 16) rfl jM138 jq138_13 (jc_ne (s.r _ _) jb_r0) (fun c9 => ?_) (fun c9 => ?_)
                · have h9 := jo_n c9 h8
                  refine jw_vret jM138 jq138_27 ?_
                  show jb_w (d + 8) 108 34 [some (.ref 2), some (jb_v l1), some (jb_v l2), some (jb_v l3), none] [] σ Q
                  refine jaL0 (p := 35) rfl jM108 jq108_34 ?_
                  refine jw_callV [] jM108 jq108_35 rfl rfl (jo_2 s.1) rfl jM139 rfl rfl ?_
                  show jb_w (d + 7) 139 0 [some (.ref 2)] [] σ (jb_k (d + 8) 108 35 [some (.ref 2), some (jb_v l1), some (jb_v l2), some (jb_v l3), none] [] Q)
                  refine jaL0 (p := 1) rfl jM139 jq139_0 ?_
                  refine jw_getP (p := 4) (i := 2) (q := 63) rfl jM139 jq139_1 rfl (jo_2 s.1) je_10_2 (jp_2_2 s.1) ?_
                  refine jc_getI (p := 7) (i := 4) rfl jM139 jq139_4 rfl (jo_63 s.1) jn_2_4 s (by decide) (by decide) rfl ?_
                  refine jw_sipush (p := 10) rfl jM139 jq139_7 (by decide) ?_
                  refine jw_ic (p := 13) rfl jM139 jq139_10 (jc_lt (s.r _ _) (jb_rn rfl)) (fun c10 => ?_) (fun c10 => ?_)
                  · have h10 := jo_p c10 h9
                    refine jw_vret jM139 jq139_24 ?_
                    show jb_w (d + 8) 108 38 [some (.ref 2), some (jb_v l1), some (jb_v l2), some (jb_v l3), none] [] σ Q
                    refine jaL0 (p := 39) rfl jM108 jq108_38 ?_
                    refine jiL1 (p := 40) rfl jM108 jq108_39 ?_
                    refine jiL2 (p := 41) rfl jM108 jq108_40 ?_
                    refine jw_callV [(jb_v l1), (jb_v l2)] jM108 jq108_41 rfl rfl (jo_2 s.1) rfl jM142 rfl rfl ?_
                    obtain ⟨x11, b12, h12⟩ := jo_b h10
                    refine jd142 hl1 hl2 b12 (fun σ11 s11 r11 => ?_) σ s
                    show jb_w (d + 8) 108 44 [some (.ref 2), some (jb_v l1), some (jb_v l2), some (jb_v l3), none] [(jb_v (x11.2))] σ11 Q
                    refine jiS4 (p := 46) rfl jM108 jq108_44 ?_
                    refine jiL4 (p := 48) rfl jM108 jq108_46 ?_
                    refine jw_if (p := 51) rfl jM108 jq108_48 (jc_ne r11 jb_r0) (fun c13 => ?_) (fun c13 => ?_)
                    · have h13 := jo_n c13 h12
                      refine jiL4 (p := 60) rfl jM108 jq108_58 ?_
                      refine jw_if (p := 63) rfl jM108 jq108_60 (jc_ne r11 jb_r0) (fun _ => ?_) (fun z => absurd c13 z)
                      refine jaL0 (p := 78) rfl jM108 jq108_77 ?_
                      refine jiL4 (p := 80) rfl jM108 jq108_78 ?_
                      refine jw_callV [(jb_v (x11.2))] jM108 jq108_80 rfl rfl (jo_2 s11.1) rfl jM140 rfl rfl ?_
                      obtain ⟨x14, b15, h15⟩ := jo_b h13
                      refine jd140 r11 b15 (fun σ14 s14 r14 => ?_) σ11 s11
                      show jb_w (d + 8) 108 83 [some (.ref 2), some (jb_v l1), some (jb_v l2), some (jb_v l3), some (jb_v (x11.2))] [(jb_v (x14.2))] σ14 Q
                      cases h15
                      exact jw_iret jM108 jq108_83 (fun z => absurd z (by decide)) (k σ14 s14 (fun _ z => by cases z; exact r14))
                    · have h13 := jo_p (Decidable.byContradiction c13) h12
                      refine jaL0 (p := 52) rfl jM108 jq108_51 ?_
                      refine jiL2 (p := 53) rfl jM108 jq108_52 ?_
                      refine jw_callV [(jb_v l2)] jM108 jq108_53 rfl rfl (jo_2 s11.1) rfl jM143 rfl rfl ?_
                      obtain ⟨x16, b17, h17⟩ := jo_b h13
                      refine jd143 hl2 b17 (fun σ16 s16 r16 => ?_) σ11 s11
                      show jb_w (d + 8) 108 56 [some (.ref 2), some (jb_v l1), some (jb_v l2), some (jb_v l3), some (jb_v (x11.2))] [(jb_v (x16.2))] σ16 Q
                      refine jiS4 (p := 58) rfl jM108 jq108_56 ?_
                      refine jiL4 (p := 60) rfl jM108 jq108_58 ?_
                      refine jw_if (p := 63) rfl jM108 jq108_60 (jc_ne r16 jb_r0) (fun c18 => ?_) (fun c18 => ?_)
                      · have h18 := jo_n c18 h17
                        refine jaL0 (p := 78) rfl jM108 jq108_77 ?_
                        refine jiL4 (p := 80) rfl jM108 jq108_78 ?_
                        refine jw_callV [(jb_v (x16.2))] jM108 jq108_80 rfl rfl (jo_2 s16.1) rfl jM140 rfl rfl ?_
                        obtain ⟨x19, b20, h20⟩ := jo_b h18
                        refine jd140 r16 b20 (fun σ19 s19 r19 => ?_) σ16 s16
                        show jb_w (d + 8) 108 83 [some (.ref 2), some (jb_v l1), some (jb_v l2), some (jb_v l3), some (jb_v (x16.2))] [(jb_v (x19.2))] σ19 Q
                        cases h20
                        exact jw_iret jM108 jq108_83 (fun z => absurd z (by decide)) (k σ19 s19 (fun _ z => by cases z; exact r19))
                      · have h18 := jo_p (Decidable.byContradiction c18) h17
                        refine jaL0 (p := 64) rfl jM108 jq108_63 ?_
                        refine jiL1 (p := 65) rfl jM108 jq108_64 ?_
                        refine jiL2 (p := 66) rfl jM108 jq108_65 ?_
                        refine jiL3 (p := 67) rfl jM108 jq108_66 ?_
                        refine jw_callV [(jb_v l1), (jb_v l2), (jb_v l3)] jM108 jq108_67 rfl rfl (jo_2 s16.1) rfl jM144 rfl rfl ?_
                        obtain ⟨x21, b22, h22⟩ := jo_b h18
                        refine jd144 hl1 hl2 hl3 b22 (fun σ21 s21 r21 => ?_) σ16 s16
                        show jb_w (d + 8) 108 70 [some (.ref 2), some (jb_v l1), some (jb_v l2), some (jb_v l3), some (jb_v (x16.2))] [(jb_v (x21.2))] σ21 Q
                        refine jw_if (p := 73) rfl jM108 jq108_70 (jc_ne r21 jb_r0) (fun c23 => ?_) (fun c23 => ?_)
                        · have h23 := jo_n c23 h22
                          refine jaL0 (p := 78) rfl jM108 jq108_77 ?_
                          refine jiL4 (p := 80) rfl jM108 jq108_78 ?_
                          refine jw_callV [(jb_v (x16.2))] jM108 jq108_80 rfl rfl (jo_2 s21.1) rfl jM140 rfl rfl ?_
                          obtain ⟨x24, b25, h25⟩ := jo_b h23
                          refine jd140 r16 b25 (fun σ24 s24 r24 => ?_) σ21 s21
                          show jb_w (d + 8) 108 83 [some (.ref 2), some (jb_v l1), some (jb_v l2), some (jb_v l3), some (jb_v (x16.2))] [(jb_v (x24.2))] σ24 Q
                          cases h25
                          exact jw_iret jM108 jq108_83 (fun z => absurd z (by decide)) (k σ24 s24 (fun _ z => by cases z; exact r24))
                        · have h23 := jo_p (Decidable.byContradiction c23) h22
                          refine jw_bipush (p := 75) rfl jM108 jq108_73 (by decide) ?_
                          refine jiS4 (p := 77) rfl jM108 jq108_75 ?_
                          refine jaL0 (p := 78) rfl jM108 jq108_77 ?_
                          refine jiL4 (p := 80) rfl jM108 jq108_78 ?_
                          refine jw_callV [(jb_v (-4))] jM108 jq108_80 rfl rfl (jo_2 s21.1) rfl jM140 rfl rfl ?_
                          obtain ⟨x26, b27, h27⟩ := jo_b h23
                          refine jd140 (jb_rn rfl) b27 (fun σ26 s26 r26 => ?_) σ21 s21
                          show jb_w (d + 8) 108 83 [some (.ref 2), some (jb_v l1), some (jb_v l2), some (jb_v l3), some (jb_v (-4))] [(jb_v (x26.2))] σ26 Q
                          cases h27
                          exact jw_iret jM108 jq108_83 (fun z => absurd z (by decide)) (k σ26 s26 (fun _ z => by cases z; exact r26))
                  · have h10 := jo_n c10 h9
                    cases h10
                    exact jb_throw (k := 1) jM139 jq139_13 rfl (Nat.le_add_left_of_le (by decide)) (k _ (s.cost 1 6) (fun _ z => by cases z))
                · have h9 := jo_p (Decidable.byContradiction c9) h8
                  cases h9
                  exact jb_throw (k := 1) jM138 jq138_16 rfl (Nat.le_add_left_of_le (by decide)) (k _ (s.cost 1 6) (fun _ z => by cases z))
              · have h7 := jo_n c7 h6
                cases h7
                exact jb_throw (k := 1) jM137 jq137_7 rfl (Nat.le_add_left_of_le (by decide)) (k _ (s.cost 1 6) (fun _ z => by cases z))
            · have h6 := jo_n c6 h5
              cases h6
              exact jb_throw (k := 0) jM108 jq108_19 rfl (Nat.le_add_left_of_le (by decide)) (k _ (s.cost 1 6) (fun _ z => by cases z))
        · have h4 := jo_n c4 h3
          cases h4
          exact jb_throw (k := 0) jM135 jq135_10 rfl (Nat.le_add_left_of_le (by decide)) (k _ (s.cost 1 6) (fun _ z => by cases z))
    · have h2 := jo_n c2 h1
      cases h2
      exact jb_throw (k := 0) jM134 jq134_9 rfl (Nat.le_add_left_of_le (by decide)) (k _ (s.cost 1 6) (fun _ z => by cases z))
-- 109 PageLoom.take need 8
def fc109_82 : Nat → jc_K → Int → Int → Int → Int → Int → Int → Option (jc_K × (Int ⊕ Nat))
  | 0, _, _, _, _, _, _, _ => none
  | m + 1, K, l1, l2, l3, l4, l5, l6 => if 24 ≤ l6 then (if l5 = 0 then ((fc140 K (-4)).bind fun x3 => some (x3.1, .inl (x3.2))) else ((fc140 K l4).bind fun x5 => some (x5.1, .inl (x5.2)))) else (if l5 = 0 then ((fc140 K (-4)).bind fun x8 => some (x8.1, .inl (x8.2))) else ((fc81 K ).bind fun x10 => if x10.2 = 0 then ((fc140 (x10.1) l4).bind fun x13 => some (x13.1, .inl (x13.2))) else ((fc70 (x10.1) ).bind fun x15 => (fc82 (x15.1) ).bind fun x17 => (fc83 (x17.1) (x15.2) (x17.2)).bind fun x19 => if -2147483648 ≤ (l6 + 1) ∧ (l6 + 1) < 2147483648 then fc109_82 m (x19.1) l1 l2 l3 l4 (x19.2) (l6 + 1) else none)))
theorem jd109_82 {d : Nat} {σ0 : ib_H} {Q : ib_O → Prop} : ∀ (m : Nat) {K : jc_K} {l1 : Int} {l2 : Int} {l3 : Int} {l4 : Int} {l5 : Int} {l6 : Int} {o7 : Option Value} (hl1 : jb_r l1) (hl2 : jb_r l2) (hl3 : jb_r l3) (hl4 : jb_r l4) (hl5 : jb_r l5) (hl6 : jb_r l6) {r : (jc_K × (Int ⊕ Nat))} (h : fc109_82 m K l1 l2 l3 l4 l5 l6 = some r) (k : ∀ σ, jc_S σ0 r.1 σ → (∀ v, r.2 = .inl v → jb_r v) → jc_E false r.2 σ Q), jc_W σ0 K (d + 8) 109 82 [some (.ref 2), some (jb_v l1), some (jb_v l2), some (jb_v l3), some (jb_v l4), some (jb_v l5), some (jb_v l6), o7] [] Q := by
  intro m
  induction m with
  | zero =>
    intro K l1 l2 l3 l4 l5 l6 o7 hl1 hl2 hl3 hl4 hl5 hl6 r h k
    cases h
  | succ m ih =>
    intro K l1 l2 l3 l4 l5 l6 o7 hl1 hl2 hl3 hl4 hl5 hl6 r h k σ s
    unfold fc109_82 at h
    refine jiL6 (p := 84) rfl jM109 jq109_82 ?_
    refine jw_bipush (p := 86) rfl jM109 jq109_84 (by decide) ?_
    refine jw_ic (p := 89) rfl jM109 jq109_86 (jc_ge hl6 (jb_rn rfl)) (fun c1 => ?_) (fun c1 => ?_)
    · have h1 := jo_p c1 h
      refine jaL0 (p := 138) rfl jM109 jq109_137 ?_
      refine jiL5 (p := 140) rfl jM109 jq109_138 ?_
      refine jw_if (p := 143) rfl jM109 jq109_140 (jc_eq hl5 jb_r0) (fun c2 => ?_) (fun c2 => ?_)
      · have h2 := jo_p c2 h1
        refine jw_bipush (p := 150) rfl jM109 jq109_148 (by decide) ?_
        refine jw_callV [(jb_v (-4))] jM109 jq109_150 rfl rfl (jo_2 s.1) rfl jM140 rfl rfl ?_
        obtain ⟨x3, b4, h4⟩ := jo_b h2
        refine jd140 (jb_rn rfl) b4 (fun σ3 s3 r3 => ?_) σ s
        show jb_w (d + 8) 109 153 [some (.ref 2), some (jb_v l1), some (jb_v l2), some (jb_v l3), some (jb_v l4), some (jb_v l5), some (jb_v l6), o7] [(jb_v (x3.2))] σ3 Q
        cases h4
        exact jw_iret jM109 jq109_153 (fun z => absurd z (by decide)) (k σ3 s3 (fun _ z => by cases z; exact r3))
      · have h2 := jo_n c2 h1
        refine jiL4 (p := 145) rfl jM109 jq109_143 ?_
        refine jw_goto jM109 jq109_145 ?_
        refine jw_callV [(jb_v l4)] jM109 jq109_150 rfl rfl (jo_2 s.1) rfl jM140 rfl rfl ?_
        obtain ⟨x5, b6, h6⟩ := jo_b h2
        refine jd140 hl4 b6 (fun σ5 s5 r5 => ?_) σ s
        show jb_w (d + 8) 109 153 [some (.ref 2), some (jb_v l1), some (jb_v l2), some (jb_v l3), some (jb_v l4), some (jb_v l5), some (jb_v l6), o7] [(jb_v (x5.2))] σ5 Q
        cases h6
        exact jw_iret jM109 jq109_153 (fun z => absurd z (by decide)) (k σ5 s5 (fun _ z => by cases z; exact r5))
    · have h1 := jo_n c1 h
      refine jiL5 (p := 91) rfl jM109 jq109_89 ?_
      refine jw_if (p := 94) rfl jM109 jq109_91 (jc_eq hl5 jb_r0) (fun c7 => ?_) (fun c7 => ?_)
      · have h7 := jo_p c7 h1
        refine jaL0 (p := 138) rfl jM109 jq109_137 ?_
        refine jiL5 (p := 140) rfl jM109 jq109_138 ?_
        refine jw_if (p := 143) rfl jM109 jq109_140 (jc_eq hl5 jb_r0) (fun _ => ?_) (fun z => absurd c7 z)
        refine jw_bipush (p := 150) rfl jM109 jq109_148 (by decide) ?_
        refine jw_callV [(jb_v (-4))] jM109 jq109_150 rfl rfl (jo_2 s.1) rfl jM140 rfl rfl ?_
        obtain ⟨x8, b9, h9⟩ := jo_b h7
        refine jd140 (jb_rn rfl) b9 (fun σ8 s8 r8 => ?_) σ s
        show jb_w (d + 8) 109 153 [some (.ref 2), some (jb_v l1), some (jb_v l2), some (jb_v l3), some (jb_v l4), some (jb_v l5), some (jb_v l6), o7] [(jb_v (x8.2))] σ8 Q
        cases h9
        exact jw_iret jM109 jq109_153 (fun z => absurd z (by decide)) (k σ8 s8 (fun _ z => by cases z; exact r8))
      · have h7 := jo_n c7 h1
        refine jaL0 (p := 95) rfl jM109 jq109_94 ?_
        refine jw_getP (p := 98) (i := 4) (q := 79) rfl jM109 jq109_95 rfl (jo_2 s.1) je_10_4 (jp_2_4 s.1) ?_
        refine jw_callV [] jM109 jq109_98 rfl rfl (jo_79 s.1) rfl jM81 rfl rfl ?_
        obtain ⟨x10, b11, h11⟩ := jo_b h7
        refine jd81  b11 (fun σ10 s10 r10 => ?_) σ s
        show jb_w (d + 8) 109 101 [some (.ref 2), some (jb_v l1), some (jb_v l2), some (jb_v l3), some (jb_v l4), some (jb_v l5), some (jb_v l6), o7] [(jb_v (x10.2))] σ10 Q
        refine jw_if (p := 104) rfl jM109 jq109_101 (jc_eq r10 jb_r0) (fun c12 => ?_) (fun c12 => ?_)
        · have h12 := jo_p c12 h11
          refine jaL0 (p := 138) rfl jM109 jq109_137 ?_
          refine jiL5 (p := 140) rfl jM109 jq109_138 ?_
          refine jw_if (p := 143) rfl jM109 jq109_140 (jc_eq hl5 jb_r0) (fun z => absurd z c7) (fun _ => ?_)
          refine jiL4 (p := 145) rfl jM109 jq109_143 ?_
          refine jw_goto jM109 jq109_145 ?_
          refine jw_callV [(jb_v l4)] jM109 jq109_150 rfl rfl (jo_2 s10.1) rfl jM140 rfl rfl ?_
          obtain ⟨x13, b14, h14⟩ := jo_b h12
          refine jd140 hl4 b14 (fun σ13 s13 r13 => ?_) σ10 s10
          show jb_w (d + 8) 109 153 [some (.ref 2), some (jb_v l1), some (jb_v l2), some (jb_v l3), some (jb_v l4), some (jb_v l5), some (jb_v l6), o7] [(jb_v (x13.2))] σ13 Q
          cases h14
          exact jw_iret jM109 jq109_153 (fun z => absurd z (by decide)) (k σ13 s13 (fun _ z => by cases z; exact r13))
        · have h12 := jo_n c12 h11
          refine jaL0 (p := 105) rfl jM109 jq109_104 ?_
          refine jw_getP (p := 108) (i := 4) (q := 79) rfl jM109 jq109_105 rfl (jo_2 s10.1) je_10_4 (jp_2_4 s10.1) ?_
          refine jw_callV [] jM109 jq109_108 rfl rfl (jo_79 s10.1) rfl jM70 rfl rfl ?_
          obtain ⟨x15, b16, h16⟩ := jo_b h12
          refine jd70  b16 (fun σ15 s15 r15 => ?_) σ10 s10
          show jb_w (d + 8) 109 111 [some (.ref 2), some (jb_v l1), some (jb_v l2), some (jb_v l3), some (jb_v l4), some (jb_v l5), some (jb_v l6), o7] [(jb_v (x15.2))] σ15 Q
          refine jiS7 (p := 113) rfl jM109 jq109_111 ?_
          refine jaL0 (p := 114) rfl jM109 jq109_113 ?_
          refine jw_getP (p := 117) (i := 4) (q := 79) rfl jM109 jq109_114 rfl (jo_2 s15.1) je_10_4 (jp_2_4 s15.1) ?_
          refine jiL7 (p := 119) rfl jM109 jq109_117 ?_
          refine jaL0 (p := 120) rfl jM109 jq109_119 ?_
          refine jw_getP (p := 123) (i := 4) (q := 79) rfl jM109 jq109_120 rfl (jo_2 s15.1) je_10_4 (jp_2_4 s15.1) ?_
          refine jw_callV [] jM109 jq109_123 rfl rfl (jo_79 s15.1) rfl jM82 rfl rfl ?_
          obtain ⟨x17, b18, h18⟩ := jo_b h16
          refine jd82  b18 (fun σ17 s17 r17 => ?_) σ15 s15
          show jb_w (d + 8) 109 126 [some (.ref 2), some (jb_v l1), some (jb_v l2), some (jb_v l3), some (jb_v l4), some (jb_v l5), some (jb_v l6), some (jb_v (x15.2))] [(jb_v (x17.2)), (jb_v (x15.2)), (.ref 79)] σ17 Q
          refine jw_callV [(jb_v (x15.2)), (jb_v (x17.2))] jM109 jq109_126 rfl rfl (jo_79 s17.1) rfl jM83 rfl rfl ?_
          obtain ⟨x19, b20, h20⟩ := jo_b h18
          refine jd83 r15 r17 b20 (fun σ19 s19 r19 => ?_) σ17 s17
          show jb_w (d + 8) 109 129 [some (.ref 2), some (jb_v l1), some (jb_v l2), some (jb_v l3), some (jb_v l4), some (jb_v l5), some (jb_v l6), some (jb_v (x15.2))] [(jb_v (x19.2))] σ19 Q
          refine jiS5 (p := 131) rfl jM109 jq109_129 ?_
          refine jiI6 (p := 134) rfl jM109 jq109_131 ?_
          refine jw_goto jM109 jq109_134 ?_
          obtain ⟨c21, h21⟩ := jo_i h20
          exact ih hl1 hl2 hl3 hl4 r19 c21 h21 k σ19 s19
def fc109 (K : jc_K) (l1 : Int) (l2 : Int) : Option (jc_K × (Int ⊕ Nat)) := if l1 < 0 then (some (jc_cost K 1 6, .inr 0)) else (if l1 < 4 then (if l2 < 0 then (some (jc_cost K 1 6, .inr 0)) else (if l2 < 32 then (if jc_i K 2 8 = 0 then (if 0 ≤ l1 ∧ l1 < 4 then if jc_i K 58 l1 = 0 then (some (jc_cost K 1 6, .inr 1)) else (if jc_i K 63 4 < 200 then ((fc142 K l1 l2).bind fun x9 => if x9.2 = 0 then ((fc71 (x9.1) l2).bind fun x12 => if x12.2 = 0 then ((fc140 (x12.1) (-4)).bind fun x20 => some (x20.1, .inl (x20.2))) else ((fc72 (x12.1) l2).bind fun x15 => if x15.2 = (-1) then (some (x15.1, .inl ((-1)))) else ((fc144 (x15.1) l1 l2 (-1)).bind fun x18 => fc109_82 jo_N (x18.1) l1 l2 (x9.2) (x15.2) (x18.2) 0))) else ((fc140 (x9.1) (x9.2)).bind fun x22 => some (x22.1, .inl (x22.2)))) else (some (jc_cost K 1 6, .inr 1))) else none) else (some (jc_cost K 1 6, .inr 1))) else (some (jc_cost K 1 6, .inr 0)))) else (some (jc_cost K 1 6, .inr 0)))
theorem jd109 {d : Nat} {σ0 : ib_H} {Q : ib_O → Prop} {K : jc_K} {l1 : Int} {l2 : Int} (hl1 : jb_r l1) (hl2 : jb_r l2) {r : (jc_K × (Int ⊕ Nat))} (h : fc109 K l1 l2 = some r) (k : ∀ σ, jc_S σ0 r.1 σ → (∀ v, r.2 = .inl v → jb_r v) → jc_E false r.2 σ Q) : jc_W σ0 K (d + 8) 109 0 [some (.ref 2), some (jb_v l1), some (jb_v l2), none, none, none, none, none] [] Q := by
  intro σ s
  unfold fc109 at h
  refine jiL1 (p := 1) rfl jM109 jq109_0 ?_
  refine jw_callS [(jb_v l1)] jM109 jq109_1 rfl rfl rfl jM134 rfl rfl ?_
  show jb_w (d + 7) 134 0 [some (jb_v l1)] [] σ (jb_k (d + 8) 109 1 [some (.ref 2), some (jb_v l1), some (jb_v l2), none, none, none, none, none] [] Q)
  refine jiL0 (p := 1) rfl jM134 jq134_0 ?_
  refine jw_if (p := 4) rfl jM134 jq134_1 (jc_lt hl1 jb_r0) (fun c1 => ?_) (fun c1 => ?_)
  · have h1 := jo_p c1 h
    cases h1
    exact jb_throw (k := 0) jM134 jq134_9 rfl (Nat.le_add_left_of_le (by decide)) (k _ (s.cost 1 6) (fun _ z => by cases z))
  · have h1 := jo_n c1 h
    refine jiL0 (p := 5) rfl jM134 jq134_4 ?_
    refine jw_iconst (p := 6) rfl jM134 jq134_5 ?_
    refine jw_ic (p := 9) rfl jM134 jq134_6 (jc_lt hl1 (jb_rn rfl)) (fun c2 => ?_) (fun c2 => ?_)
    · have h2 := jo_p c2 h1
      refine jw_vret jM134 jq134_20 ?_
      show jb_w (d + 8) 109 4 [some (.ref 2), some (jb_v l1), some (jb_v l2), none, none, none, none, none] [] σ Q
      refine jiL2 (p := 5) rfl jM109 jq109_4 ?_
      refine jw_callS [(jb_v l2)] jM109 jq109_5 rfl rfl rfl jM135 rfl rfl ?_
      show jb_w (d + 7) 135 0 [some (jb_v l2)] [] σ (jb_k (d + 8) 109 5 [some (.ref 2), some (jb_v l1), some (jb_v l2), none, none, none, none, none] [] Q)
      refine jiL0 (p := 1) rfl jM135 jq135_0 ?_
      refine jw_if (p := 4) rfl jM135 jq135_1 (jc_lt hl2 jb_r0) (fun c3 => ?_) (fun c3 => ?_)
      · have h3 := jo_p c3 h2
        cases h3
        exact jb_throw (k := 0) jM135 jq135_10 rfl (Nat.le_add_left_of_le (by decide)) (k _ (s.cost 1 6) (fun _ z => by cases z))
      · have h3 := jo_n c3 h2
        refine jiL0 (p := 5) rfl jM135 jq135_4 ?_
        refine jw_bipush (p := 7) rfl jM135 jq135_5 (by decide) ?_
        refine jw_ic (p := 10) rfl jM135 jq135_7 (jc_lt hl2 (jb_rn rfl)) (fun c4 => ?_) (fun c4 => ?_)
        · have h4 := jo_p c4 h3
          refine jw_vret jM135 jq135_21 ?_
          show jb_w (d + 8) 109 8 [some (.ref 2), some (jb_v l1), some (jb_v l2), none, none, none, none, none] [] σ Q
          refine jaL0 (p := 9) rfl jM109 jq109_8 ?_
          refine jiL1 (p := 10) rfl jM109 jq109_9 ?_
          refine jw_callV [(jb_v l1)] jM109 jq109_10 rfl rfl (jo_2 s.1) rfl jM138 rfl rfl ?_
          show jb_w (d + 7) 138 0 [some (.ref 2), some (jb_v l1)] [] σ (jb_k (d + 8) 109 10 [some (.ref 2), some (jb_v l1), some (jb_v l2), none, none, none, none, none] [] Q)
          refine jaL0 (p := 1) rfl jM138 jq138_0 ?_
          refine jw_callV [] jM138 jq138_1 rfl rfl (jo_2 s.1) rfl jM137 rfl rfl ?_
          show jb_w (d + 6) 137 0 [some (.ref 2)] [] σ (jb_k (d + 7) 138 1 [some (.ref 2), some (jb_v l1)] [] (jb_k (d + 8) 109 10 [some (.ref 2), some (jb_v l1), some (jb_v l2), none, none, none, none, none] [] Q))
          refine jaL0 (p := 1) rfl jM137 jq137_0 ?_
          refine jc_getI (p := 4) (i := 8) rfl jM137 jq137_1 rfl (jo_2 s.1) jn_10_8 s (by decide) (by decide) rfl ?_
          refine jw_if (p := 7) rfl jM137 jq137_4 (jc_eq (s.r _ _) jb_r0) (fun c5 => ?_) (fun c5 => ?_)
          · have h5 := jo_p c5 h4
            refine jw_vret jM137 jq137_18 ?_
            show jb_w (d + 7) 138 4 [some (.ref 2), some (jb_v l1)] [] σ (jb_k (d + 8) 109 10 [some (.ref 2), some (jb_v l1), some (jb_v l2), none, none, none, none, none] [] Q)
            refine jaL0 (p := 5) rfl jM138 jq138_4 ?_
            refine jw_getP (p := 8) (i := 1) (q := 57) rfl jM138 jq138_5 rfl (jo_2 s.1) je_10_1 (jp_2_1 s.1) ?_
            refine jw_getP (p := 11) (i := 0) (q := 58) rfl jM138 jq138_8 rfl (jo_57 s.1) je_6_0 (jp_57_0 s.1) ?_
            refine jiL1 (p := 12) rfl jM138 jq138_11 ?_
            obtain ⟨c6, h6⟩ := jo_i h5
            refine jc_bald (p := 13) rfl jM138 jq138_12 (ja_58 s.1) c6.1 c6.2 s (by decide) rfl ?_
            refine jw_if (p := 16) rfl jM138 jq138_13 (jc_ne (s.r _ _) jb_r0) (fun c7 => ?_) (fun c7 => ?_)
            · have h7 := jo_n c7 h6
              refine jw_vret jM138 jq138_27 ?_
              show jb_w (d + 8) 109 13 [some (.ref 2), some (jb_v l1), some (jb_v l2), none, none, none, none, none] [] σ Q
              refine jaL0 (p := 14) rfl jM109 jq109_13 ?_
              refine jw_callV [] jM109 jq109_14 rfl rfl (jo_2 s.1) rfl jM139 rfl rfl ?_
              show jb_w (d + 7) 139 0 [some (.ref 2)] [] σ (jb_k (d + 8) 109 14 [some (.ref 2), some (jb_v l1), some (jb_v l2), none, none, none, none, none] [] Q)
              refine jaL0 (p := 1) rfl jM139 jq139_0 ?_
              refine jw_getP (p := 4) (i := 2) (q := 63) rfl jM139 jq139_1 rfl (jo_2 s.1) je_10_2 (jp_2_2 s.1) ?_
              refine jc_getI (p := 7) (i := 4) rfl jM139 jq139_4 rfl (jo_63 s.1) jn_2_4 s (by decide) (by decide) rfl ?_
              refine jw_sipush (p := 10) rfl jM139 jq139_7 (by decide) ?_
              refine jw_ic (p := 13) rfl jM139 jq139_10 (jc_lt (s.r _ _) (jb_rn rfl)) (fun c8 => ?_) (fun c8 => ?_)
              · have h8 := jo_p c8 h7
                refine jw_vret jM139 jq139_24 ?_
                show jb_w (d + 8) 109 17 [some (.ref 2), some (jb_v l1), some (jb_v l2), none, none, none, none, none] [] σ Q
                refine jaL0 (p := 18) rfl jM109 jq109_17 ?_
                refine jiL1 (p := 19) rfl jM109 jq109_18 ?_
                refine jiL2 (p := 20) rfl jM109 jq109_19 ?_
                refine jw_callV [(jb_v l1), (jb_v l2)] jM109 jq109_20 rfl rfl (jo_2 s.1) rfl jM142 rfl rfl ?_
                obtain ⟨x9, b10, h10⟩ := jo_b h8
                refine jd142 hl1 hl2 b10 (fun σ9 s9 r9 => ?_) σ s
                show jb_w (d + 8) 109 23 [some (.ref 2), some (jb_v l1), some (jb_v l2), none, none, none, none, none] [(jb_v (x9.2))] σ9 Q
                refine jiS3 (p := 24) rfl jM109 jq109_23 ?_
                refine jiL3 (p := 25) rfl jM109 jq109_24 ?_
                refine jw_if (p := 28) rfl jM109 jq109_25 (jc_eq r9 jb_r0) (fun c11 => ?_) (fun c11 => ?_)
                · have h11 := jo_p c11 h10
                  refine jaL0 (p := 35) rfl jM109 jq109_34 ?_
                  refine jw_getP (p := 38) (i := 4) (q := 79) rfl jM109 jq109_35 rfl (jo_2 s9.1) je_10_4 (jp_2_4 s9.1) ?_
                  refine jiL2 (p := 39) rfl jM109 jq109_38 ?_
                  refine jw_callV [(jb_v l2)] jM109 jq109_39 rfl rfl (jo_79 s9.1) rfl jM71 rfl rfl ?_
                  obtain ⟨x12, b13, h13⟩ := jo_b h11
                  refine jd71 hl2 b13 (fun σ12 s12 r12 => ?_) σ9 s9
                  show jb_w (d + 8) 109 42 [some (.ref 2), some (jb_v l1), some (jb_v l2), some (jb_v (x9.2)), none, none, none, none] [(jb_v (x12.2))] σ12 Q
                  refine jw_if (p := 45) rfl jM109 jq109_42 (jc_ne r12 jb_r0) (fun c14 => ?_) (fun c14 => ?_)
                  · have h14 := jo_n c14 h13
                    refine jaL0 (p := 53) rfl jM109 jq109_52 ?_
                    refine jw_getP (p := 56) (i := 4) (q := 79) rfl jM109 jq109_53 rfl (jo_2 s12.1) je_10_4 (jp_2_4 s12.1) ?_
                    refine jiL2 (p := 57) rfl jM109 jq109_56 ?_
                    refine jw_callV [(jb_v l2)] jM109 jq109_57 rfl rfl (jo_79 s12.1) rfl jM72 rfl rfl ?_
                    obtain ⟨x15, b16, h16⟩ := jo_b h14
                    refine jd72 hl2 b16 (fun σ15 s15 r15 => ?_) σ12 s12
                    show jb_w (d + 8) 109 60 [some (.ref 2), some (jb_v l1), some (jb_v l2), some (jb_v (x9.2)), none, none, none, none] [(jb_v (x15.2))] σ15 Q
                    refine jiS4 (p := 62) rfl jM109 jq109_60 ?_
                    refine jiL4 (p := 64) rfl jM109 jq109_62 ?_
                    refine jw_iconst (p := 65) rfl jM109 jq109_64 ?_
                    refine jw_ic (p := 68) rfl jM109 jq109_65 (jc_ne r15 (jb_rn rfl)) (fun c17 => ?_) (fun c17 => ?_)
                    · have h17 := jo_n c17 h16
                      refine jaL0 (p := 71) rfl jM109 jq109_70 ?_
                      refine jiL1 (p := 72) rfl jM109 jq109_71 ?_
                      refine jiL2 (p := 73) rfl jM109 jq109_72 ?_
                      refine jw_iconst (p := 74) rfl jM109 jq109_73 ?_
                      refine jw_callV [(jb_v l1), (jb_v l2), (jb_v (-1))] jM109 jq109_74 rfl rfl (jo_2 s15.1) rfl jM144 rfl rfl ?_
                      obtain ⟨x18, b19, h19⟩ := jo_b h17
                      refine jd144 hl1 hl2 (jb_rn rfl) b19 (fun σ18 s18 r18 => ?_) σ15 s15
                      show jb_w (d + 8) 109 77 [some (.ref 2), some (jb_v l1), some (jb_v l2), some (jb_v (x9.2)), some (jb_v (x15.2)), none, none, none] [(jb_v (x18.2))] σ18 Q
                      refine jiS5 (p := 79) rfl jM109 jq109_77 ?_
                      refine jw_iconst (p := 80) rfl jM109 jq109_79 ?_
                      refine jiS6 (p := 82) rfl jM109 jq109_80 ?_
                      exact jd109_82 jo_N hl1 hl2 r9 r15 r18 (jb_rn rfl) h19 k σ18 s18
                    · have h17 := jo_p (Decidable.byContradiction c17) h16
                      refine jw_iconst (p := 69) rfl jM109 jq109_68 ?_
                      cases h17
                      exact jw_iret jM109 jq109_69 (fun z => absurd z (by decide)) (k σ15 s15 (fun _ z => by cases z; exact (jb_rn rfl)))
                  · have h14 := jo_p (Decidable.byContradiction c14) h13
                    refine jaL0 (p := 46) rfl jM109 jq109_45 ?_
                    refine jw_bipush (p := 48) rfl jM109 jq109_46 (by decide) ?_
                    refine jw_callV [(jb_v (-4))] jM109 jq109_48 rfl rfl (jo_2 s12.1) rfl jM140 rfl rfl ?_
                    obtain ⟨x20, b21, h21⟩ := jo_b h14
                    refine jd140 (jb_rn rfl) b21 (fun σ20 s20 r20 => ?_) σ12 s12
                    show jb_w (d + 8) 109 51 [some (.ref 2), some (jb_v l1), some (jb_v l2), some (jb_v (x9.2)), none, none, none, none] [(jb_v (x20.2))] σ20 Q
                    cases h21
                    exact jw_iret jM109 jq109_51 (fun z => absurd z (by decide)) (k σ20 s20 (fun _ z => by cases z; exact r20))
                · have h11 := jo_n c11 h10
                  refine jaL0 (p := 29) rfl jM109 jq109_28 ?_
                  refine jiL3 (p := 30) rfl jM109 jq109_29 ?_
                  refine jw_callV [(jb_v (x9.2))] jM109 jq109_30 rfl rfl (jo_2 s9.1) rfl jM140 rfl rfl ?_
                  obtain ⟨x22, b23, h23⟩ := jo_b h11
                  refine jd140 r9 b23 (fun σ22 s22 r22 => ?_) σ9 s9
                  show jb_w (d + 8) 109 33 [some (.ref 2), some (jb_v l1), some (jb_v l2), some (jb_v (x9.2)), none, none, none, none] [(jb_v (x22.2))] σ22 Q
                  cases h23
                  exact jw_iret jM109 jq109_33 (fun z => absurd z (by decide)) (k σ22 s22 (fun _ z => by cases z; exact r22))
              · have h8 := jo_n c8 h7
                cases h8
                exact jb_throw (k := 1) jM139 jq139_13 rfl (Nat.le_add_left_of_le (by decide)) (k _ (s.cost 1 6) (fun _ z => by cases z))
            · have h7 := jo_p (Decidable.byContradiction c7) h6
              cases h7
              exact jb_throw (k := 1) jM138 jq138_16 rfl (Nat.le_add_left_of_le (by decide)) (k _ (s.cost 1 6) (fun _ z => by cases z))
          · have h5 := jo_n c5 h4
            cases h5
            exact jb_throw (k := 1) jM137 jq137_7 rfl (Nat.le_add_left_of_le (by decide)) (k _ (s.cost 1 6) (fun _ z => by cases z))
        · have h4 := jo_n c4 h3
          cases h4
          exact jb_throw (k := 0) jM135 jq135_10 rfl (Nat.le_add_left_of_le (by decide)) (k _ (s.cost 1 6) (fun _ z => by cases z))
    · have h2 := jo_n c2 h1
      cases h2
      exact jb_throw (k := 0) jM134 jq134_9 rfl (Nat.le_add_left_of_le (by decide)) (k _ (s.cost 1 6) (fun _ z => by cases z))
-- 110 PageLoom.read need 8
def fc110 (K : jc_K) (l1 : Int) (l2 : Int) : Option (jc_K × (Int ⊕ Nat)) := if l1 < 0 then (some (jc_cost K 1 6, .inr 0)) else (if l1 < 4 then (if l2 < 0 then (some (jc_cost K 1 6, .inr 0)) else (if l2 < 32 then (if jc_i K 2 8 = 0 then (if 0 ≤ l1 ∧ l1 < 4 then if jc_i K 58 l1 = 0 then (some (jc_cost K 1 6, .inr 1)) else ((fc142 K l1 l2).bind fun x8 => if x8.2 = 0 then ((fc71 (x8.1) l2).bind fun x13 => if x13.2 = 0 then ((fc140 (x13.1) (-4)).bind fun x16 => some (x16.1, .inl (x16.2))) else ((fc72 (x13.1) l2).bind fun x18 => (fc140 (x18.1) (x18.2)).bind fun x20 => some (x20.1, .inl (x20.2)))) else ((fc140 (x8.1) (x8.2)).bind fun x11 => some (x11.1, .inl (x11.2)))) else none) else (some (jc_cost K 1 6, .inr 1))) else (some (jc_cost K 1 6, .inr 0)))) else (some (jc_cost K 1 6, .inr 0)))
theorem jd110 {d : Nat} {σ0 : ib_H} {Q : ib_O → Prop} {K : jc_K} {l1 : Int} {l2 : Int} (hl1 : jb_r l1) (hl2 : jb_r l2) {r : (jc_K × (Int ⊕ Nat))} (h : fc110 K l1 l2 = some r) (k : ∀ σ, jc_S σ0 r.1 σ → (∀ v, r.2 = .inl v → jb_r v) → jc_E false r.2 σ Q) : jc_W σ0 K (d + 8) 110 0 [some (.ref 2), some (jb_v l1), some (jb_v l2), none] [] Q := by
  intro σ s
  unfold fc110 at h
  refine jiL1 (p := 1) rfl jM110 jq110_0 ?_
  refine jw_callS [(jb_v l1)] jM110 jq110_1 rfl rfl rfl jM134 rfl rfl ?_
  show jb_w (d + 7) 134 0 [some (jb_v l1)] [] σ (jb_k (d + 8) 110 1 [some (.ref 2), some (jb_v l1), some (jb_v l2), none] [] Q)
  refine jiL0 (p := 1) rfl jM134 jq134_0 ?_
  refine jw_if (p := 4) rfl jM134 jq134_1 (jc_lt hl1 jb_r0) (fun c1 => ?_) (fun c1 => ?_)
  · have h1 := jo_p c1 h
    cases h1
    exact jb_throw (k := 0) jM134 jq134_9 rfl (Nat.le_add_left_of_le (by decide)) (k _ (s.cost 1 6) (fun _ z => by cases z))
  · have h1 := jo_n c1 h
    refine jiL0 (p := 5) rfl jM134 jq134_4 ?_
    refine jw_iconst (p := 6) rfl jM134 jq134_5 ?_
    refine jw_ic (p := 9) rfl jM134 jq134_6 (jc_lt hl1 (jb_rn rfl)) (fun c2 => ?_) (fun c2 => ?_)
    · have h2 := jo_p c2 h1
      refine jw_vret jM134 jq134_20 ?_
      show jb_w (d + 8) 110 4 [some (.ref 2), some (jb_v l1), some (jb_v l2), none] [] σ Q
      refine jiL2 (p := 5) rfl jM110 jq110_4 ?_
      refine jw_callS [(jb_v l2)] jM110 jq110_5 rfl rfl rfl jM135 rfl rfl ?_
      show jb_w (d + 7) 135 0 [some (jb_v l2)] [] σ (jb_k (d + 8) 110 5 [some (.ref 2), some (jb_v l1), some (jb_v l2), none] [] Q)
      refine jiL0 (p := 1) rfl jM135 jq135_0 ?_
      refine jw_if (p := 4) rfl jM135 jq135_1 (jc_lt hl2 jb_r0) (fun c3 => ?_) (fun c3 => ?_)
      · have h3 := jo_p c3 h2
        cases h3
        exact jb_throw (k := 0) jM135 jq135_10 rfl (Nat.le_add_left_of_le (by decide)) (k _ (s.cost 1 6) (fun _ z => by cases z))
      · have h3 := jo_n c3 h2
        refine jiL0 (p := 5) rfl jM135 jq135_4 ?_
        refine jw_bipush (p := 7) rfl jM135 jq135_5 (by decide) ?_
        refine jw_ic (p := 10) rfl jM135 jq135_7 (jc_lt hl2 (jb_rn rfl)) (fun c4 => ?_) (fun c4 => ?_)
        · have h4 := jo_p c4 h3
          refine jw_vret jM135 jq135_21 ?_
          show jb_w (d + 8) 110 8 [some (.ref 2), some (jb_v l1), some (jb_v l2), none] [] σ Q
          refine jaL0 (p := 9) rfl jM110 jq110_8 ?_
          refine jiL1 (p := 10) rfl jM110 jq110_9 ?_
          refine jw_callV [(jb_v l1)] jM110 jq110_10 rfl rfl (jo_2 s.1) rfl jM138 rfl rfl ?_
          show jb_w (d + 7) 138 0 [some (.ref 2), some (jb_v l1)] [] σ (jb_k (d + 8) 110 10 [some (.ref 2), some (jb_v l1), some (jb_v l2), none] [] Q)
          refine jaL0 (p := 1) rfl jM138 jq138_0 ?_
          refine jw_callV [] jM138 jq138_1 rfl rfl (jo_2 s.1) rfl jM137 rfl rfl ?_
          show jb_w (d + 6) 137 0 [some (.ref 2)] [] σ (jb_k (d + 7) 138 1 [some (.ref 2), some (jb_v l1)] [] (jb_k (d + 8) 110 10 [some (.ref 2), some (jb_v l1), some (jb_v l2), none] [] Q))
          refine jaL0 (p := 1) rfl jM137 jq137_0 ?_
          refine jc_getI (p := 4) (i := 8) rfl jM137 jq137_1 rfl (jo_2 s.1) jn_10_8 s (by decide) (by decide) rfl ?_
          refine jw_if (p := 7) rfl jM137 jq137_4 (jc_eq (s.r _ _) jb_r0) (fun c5 => ?_) (fun c5 => ?_)
          · have h5 := jo_p c5 h4
            refine jw_vret jM137 jq137_18 ?_
            show jb_w (d + 7) 138 4 [some (.ref 2), some (jb_v l1)] [] σ (jb_k (d + 8) 110 10 [some (.ref 2), some (jb_v l1), some (jb_v l2), none] [] Q)
            refine jaL0 (p := 5) rfl jM138 jq138_4 ?_
            refine jw_getP (p := 8) (i := 1) (q := 57) rfl jM138 jq138_5 rfl (jo_2 s.1) je_10_1 (jp_2_1 s.1) ?_
            refine jw_getP (p := 11) (i := 0) (q := 58) rfl jM138 jq138_8 rfl (jo_57 s.1) je_6_0 (jp_57_0 s.1) ?_
            refine jiL1 (p := 12) rfl jM138 jq138_11 ?_
            obtain ⟨c6, h6⟩ := jo_i h5
            refine jc_bald (p := 13) rfl jM138 jq138_12 (ja_58 s.1) c6.1 c6.2 s (by decide) rfl ?_
            refine jw_if (p := 16) rfl jM138 jq138_13 (jc_ne (s.r _ _) jb_r0) (fun c7 => ?_) (fun c7 => ?_)
            · have h7 := jo_n c7 h6
              refine jw_vret jM138 jq138_27 ?_
              show jb_w (d + 8) 110 13 [some (.ref 2), some (jb_v l1), some (jb_v l2), none] [] σ Q
              refine jaL0 (p := 14) rfl jM110 jq110_13 ?_
              refine jiL1 (p := 15) rfl jM110 jq110_14 ?_
              refine jiL2 (p := 16) rfl jM110 jq110_15 ?_
              refine jw_callV [(jb_v l1), (jb_v l2)] jM110 jq110_16 rfl rfl (jo_2 s.1) rfl jM142 rfl rfl ?_
              obtain ⟨x8, b9, h9⟩ := jo_b h7
              refine jd142 hl1 hl2 b9 (fun σ8 s8 r8 => ?_) σ s
              show jb_w (d + 8) 110 19 [some (.ref 2), some (jb_v l1), some (jb_v l2), none] [(jb_v (x8.2))] σ8 Q
              refine jiS3 (p := 20) rfl jM110 jq110_19 ?_
              refine jiL3 (p := 21) rfl jM110 jq110_20 ?_
              refine jw_if (p := 24) rfl jM110 jq110_21 (jc_ne r8 jb_r0) (fun c10 => ?_) (fun c10 => ?_)
              · have h10 := jo_n c10 h9
                refine jaL0 (p := 50) rfl jM110 jq110_49 ?_
                refine jiL3 (p := 51) rfl jM110 jq110_50 ?_
                refine jw_callV [(jb_v (x8.2))] jM110 jq110_51 rfl rfl (jo_2 s8.1) rfl jM140 rfl rfl ?_
                obtain ⟨x11, b12, h12⟩ := jo_b h10
                refine jd140 r8 b12 (fun σ11 s11 r11 => ?_) σ8 s8
                show jb_w (d + 8) 110 54 [some (.ref 2), some (jb_v l1), some (jb_v l2), some (jb_v (x8.2))] [(jb_v (x11.2))] σ11 Q
                cases h12
                exact jw_iret jM110 jq110_54 (fun z => absurd z (by decide)) (k σ11 s11 (fun _ z => by cases z; exact r11))
              · have h10 := jo_p (Decidable.byContradiction c10) h9
                refine jaL0 (p := 25) rfl jM110 jq110_24 ?_
                refine jw_getP (p := 28) (i := 4) (q := 79) rfl jM110 jq110_25 rfl (jo_2 s8.1) je_10_4 (jp_2_4 s8.1) ?_
                refine jiL2 (p := 29) rfl jM110 jq110_28 ?_
                refine jw_callV [(jb_v l2)] jM110 jq110_29 rfl rfl (jo_79 s8.1) rfl jM71 rfl rfl ?_
                obtain ⟨x13, b14, h14⟩ := jo_b h10
                refine jd71 hl2 b14 (fun σ13 s13 r13 => ?_) σ8 s8
                show jb_w (d + 8) 110 32 [some (.ref 2), some (jb_v l1), some (jb_v l2), some (jb_v (x8.2))] [(jb_v (x13.2))] σ13 Q
                refine jw_if (p := 35) rfl jM110 jq110_32 (jc_eq r13 jb_r0) (fun c15 => ?_) (fun c15 => ?_)
                · have h15 := jo_p c15 h14
                  refine jw_bipush (p := 48) rfl jM110 jq110_46 (by decide) ?_
                  refine jiS3 (p := 49) rfl jM110 jq110_48 ?_
                  refine jaL0 (p := 50) rfl jM110 jq110_49 ?_
                  refine jiL3 (p := 51) rfl jM110 jq110_50 ?_
                  refine jw_callV [(jb_v (-4))] jM110 jq110_51 rfl rfl (jo_2 s13.1) rfl jM140 rfl rfl ?_
                  obtain ⟨x16, b17, h17⟩ := jo_b h15
                  refine jd140 (jb_rn rfl) b17 (fun σ16 s16 r16 => ?_) σ13 s13
                  show jb_w (d + 8) 110 54 [some (.ref 2), some (jb_v l1), some (jb_v l2), some (jb_v (-4))] [(jb_v (x16.2))] σ16 Q
                  cases h17
                  exact jw_iret jM110 jq110_54 (fun z => absurd z (by decide)) (k σ16 s16 (fun _ z => by cases z; exact r16))
                · have h15 := jo_n c15 h14
                  refine jaL0 (p := 36) rfl jM110 jq110_35 ?_
                  refine jw_getP (p := 39) (i := 4) (q := 79) rfl jM110 jq110_36 rfl (jo_2 s13.1) je_10_4 (jp_2_4 s13.1) ?_
                  refine jiL2 (p := 40) rfl jM110 jq110_39 ?_
                  refine jw_callV [(jb_v l2)] jM110 jq110_40 rfl rfl (jo_79 s13.1) rfl jM72 rfl rfl ?_
                  obtain ⟨x18, b19, h19⟩ := jo_b h15
                  refine jd72 hl2 b19 (fun σ18 s18 r18 => ?_) σ13 s13
                  show jb_w (d + 8) 110 43 [some (.ref 2), some (jb_v l1), some (jb_v l2), some (jb_v (x8.2))] [(jb_v (x18.2))] σ18 Q
                  refine jw_goto jM110 jq110_43 ?_
                  refine jiS3 (p := 49) rfl jM110 jq110_48 ?_
                  refine jaL0 (p := 50) rfl jM110 jq110_49 ?_
                  refine jiL3 (p := 51) rfl jM110 jq110_50 ?_
                  refine jw_callV [(jb_v (x18.2))] jM110 jq110_51 rfl rfl (jo_2 s18.1) rfl jM140 rfl rfl ?_
                  obtain ⟨x20, b21, h21⟩ := jo_b h19
                  refine jd140 r18 b21 (fun σ20 s20 r20 => ?_) σ18 s18
                  show jb_w (d + 8) 110 54 [some (.ref 2), some (jb_v l1), some (jb_v l2), some (jb_v (x18.2))] [(jb_v (x20.2))] σ20 Q
                  cases h21
                  exact jw_iret jM110 jq110_54 (fun z => absurd z (by decide)) (k σ20 s20 (fun _ z => by cases z; exact r20))
            · have h7 := jo_p (Decidable.byContradiction c7) h6
              cases h7
              exact jb_throw (k := 1) jM138 jq138_16 rfl (Nat.le_add_left_of_le (by decide)) (k _ (s.cost 1 6) (fun _ z => by cases z))
          · have h5 := jo_n c5 h4
            cases h5
            exact jb_throw (k := 1) jM137 jq137_7 rfl (Nat.le_add_left_of_le (by decide)) (k _ (s.cost 1 6) (fun _ z => by cases z))
        · have h4 := jo_n c4 h3
          cases h4
          exact jb_throw (k := 0) jM135 jq135_10 rfl (Nat.le_add_left_of_le (by decide)) (k _ (s.cost 1 6) (fun _ z => by cases z))
    · have h2 := jo_n c2 h1
      cases h2
      exact jb_throw (k := 0) jM134 jq134_9 rfl (Nat.le_add_left_of_le (by decide)) (k _ (s.cost 1 6) (fun _ z => by cases z))
-- 111 PageLoom.place need 8
def fc111 (K : jc_K) (l1 : Int) : Option (jc_K × (Int ⊕ Nat)) := if l1 < 0 then (some (jc_cost K 1 6, .inr 0)) else (if l1 < 4 then (if jc_i K 2 8 = 0 then (if 0 ≤ l1 ∧ l1 < 4 then if jc_i K 58 l1 = 0 then (some (jc_cost K 1 6, .inr 1)) else (some (jc_ui K 61 l1 (-1), .inl (jc_i K 59 l1))) else none) else (some (jc_cost K 1 6, .inr 1))) else (some (jc_cost K 1 6, .inr 0)))
theorem jd111 {d : Nat} {σ0 : ib_H} {Q : ib_O → Prop} {K : jc_K} {l1 : Int} (hl1 : jb_r l1) {r : (jc_K × (Int ⊕ Nat))} (h : fc111 K l1 = some r) (k : ∀ σ, jc_S σ0 r.1 σ → (∀ v, r.2 = .inl v → jb_r v) → jc_E false r.2 σ Q) : jc_W σ0 K (d + 8) 111 0 [some (.ref 2), some (jb_v l1)] [] Q := by
  intro σ s
  unfold fc111 at h
  refine jiL1 (p := 1) rfl jM111 jq111_0 ?_
  refine jw_callS [(jb_v l1)] jM111 jq111_1 rfl rfl rfl jM134 rfl rfl ?_
  show jb_w (d + 7) 134 0 [some (jb_v l1)] [] σ (jb_k (d + 8) 111 1 [some (.ref 2), some (jb_v l1)] [] Q)
  refine jiL0 (p := 1) rfl jM134 jq134_0 ?_
  refine jw_if (p := 4) rfl jM134 jq134_1 (jc_lt hl1 jb_r0) (fun c1 => ?_) (fun c1 => ?_)
  · have h1 := jo_p c1 h
    cases h1
    exact jb_throw (k := 0) jM134 jq134_9 rfl (Nat.le_add_left_of_le (by decide)) (k _ (s.cost 1 6) (fun _ z => by cases z))
  · have h1 := jo_n c1 h
    refine jiL0 (p := 5) rfl jM134 jq134_4 ?_
    refine jw_iconst (p := 6) rfl jM134 jq134_5 ?_
    refine jw_ic (p := 9) rfl jM134 jq134_6 (jc_lt hl1 (jb_rn rfl)) (fun c2 => ?_) (fun c2 => ?_)
    · have h2 := jo_p c2 h1
      refine jw_vret jM134 jq134_20 ?_
      show jb_w (d + 8) 111 4 [some (.ref 2), some (jb_v l1)] [] σ Q
      refine jaL0 (p := 5) rfl jM111 jq111_4 ?_
      refine jiL1 (p := 6) rfl jM111 jq111_5 ?_
      refine jw_callV [(jb_v l1)] jM111 jq111_6 rfl rfl (jo_2 s.1) rfl jM138 rfl rfl ?_
      show jb_w (d + 7) 138 0 [some (.ref 2), some (jb_v l1)] [] σ (jb_k (d + 8) 111 6 [some (.ref 2), some (jb_v l1)] [] Q)
      refine jaL0 (p := 1) rfl jM138 jq138_0 ?_
      refine jw_callV [] jM138 jq138_1 rfl rfl (jo_2 s.1) rfl jM137 rfl rfl ?_
      show jb_w (d + 6) 137 0 [some (.ref 2)] [] σ (jb_k (d + 7) 138 1 [some (.ref 2), some (jb_v l1)] [] (jb_k (d + 8) 111 6 [some (.ref 2), some (jb_v l1)] [] Q))
      refine jaL0 (p := 1) rfl jM137 jq137_0 ?_
      refine jc_getI (p := 4) (i := 8) rfl jM137 jq137_1 rfl (jo_2 s.1) jn_10_8 s (by decide) (by decide) rfl ?_
      refine jw_if (p := 7) rfl jM137 jq137_4 (jc_eq (s.r _ _) jb_r0) (fun c3 => ?_) (fun c3 => ?_)
      · have h3 := jo_p c3 h2
        refine jw_vret jM137 jq137_18 ?_
        show jb_w (d + 7) 138 4 [some (.ref 2), some (jb_v l1)] [] σ (jb_k (d + 8) 111 6 [some (.ref 2), some (jb_v l1)] [] Q)
        refine jaL0 (p := 5) rfl jM138 jq138_4 ?_
        refine jw_getP (p := 8) (i := 1) (q := 57) rfl jM138 jq138_5 rfl (jo_2 s.1) je_10_1 (jp_2_1 s.1) ?_
        refine jw_getP (p := 11) (i := 0) (q := 58) rfl jM138 jq138_8 rfl (jo_57 s.1) je_6_0 (jp_57_0 s.1) ?_
        refine jiL1 (p := 12) rfl jM138 jq138_11 ?_
        obtain ⟨c4, h4⟩ := jo_i h3
        refine jc_bald (p := 13) rfl jM138 jq138_12 (ja_58 s.1) c4.1 c4.2 s (by decide) rfl ?_
        refine jw_if (p := 16) rfl jM138 jq138_13 (jc_ne (s.r _ _) jb_r0) (fun c5 => ?_) (fun c5 => ?_)
        · have h5 := jo_n c5 h4
          refine jw_vret jM138 jq138_27 ?_
          show jb_w (d + 8) 111 9 [some (.ref 2), some (jb_v l1)] [] σ Q
          refine jaL0 (p := 10) rfl jM111 jq111_9 ?_
          refine jw_getP (p := 13) (i := 1) (q := 57) rfl jM111 jq111_10 rfl (jo_2 s.1) je_10_1 (jp_2_1 s.1) ?_
          refine jw_getP (p := 16) (i := 3) (q := 61) rfl jM111 jq111_13 rfl (jo_57 s.1) je_6_3 (jp_57_3 s.1) ?_
          refine jiL1 (p := 17) rfl jM111 jq111_16 ?_
          refine jw_iconst (p := 18) rfl jM111 jq111_17 ?_
          refine jc_iast (p := 19) rfl jM111 jq111_18 (ja_61 s.1) c4.1 c4.2 s (by decide) (jb_rn rfl) ?_
          intro σ6 s6
          refine jaL0 (p := 20) rfl jM111 jq111_19 ?_
          refine jw_getP (p := 23) (i := 1) (q := 57) rfl jM111 jq111_20 rfl (jo_2 s6.1) je_10_1 (jp_2_1 s6.1) ?_
          refine jw_getP (p := 26) (i := 1) (q := 59) rfl jM111 jq111_23 rfl (jo_57 s6.1) je_6_1 (jp_57_1 s6.1) ?_
          refine jiL1 (p := 27) rfl jM111 jq111_26 ?_
          refine jc_iald (p := 28) rfl jM111 jq111_27 (ja_59 s6.1) c4.1 c4.2 s6 (by decide) (jc_uN (by decide)) ?_
          cases h5
          exact jw_iret jM111 jq111_28 (fun z => absurd z (by decide)) (k σ6 s6 (fun _ z => by cases z; exact (s.r _ _)))
        · have h5 := jo_p (Decidable.byContradiction c5) h4
          cases h5
          exact jb_throw (k := 1) jM138 jq138_16 rfl (Nat.le_add_left_of_le (by decide)) (k _ (s.cost 1 6) (fun _ z => by cases z))
      · have h3 := jo_n c3 h2
        cases h3
        exact jb_throw (k := 1) jM137 jq137_7 rfl (Nat.le_add_left_of_le (by decide)) (k _ (s.cost 1 6) (fun _ z => by cases z))
    · have h2 := jo_n c2 h1
      cases h2
      exact jb_throw (k := 0) jM134 jq134_9 rfl (Nat.le_add_left_of_le (by decide)) (k _ (s.cost 1 6) (fun _ z => by cases z))
-- 112 PageLoom.back need 8
def fc112 (K : jc_K) (l1 : Int) (l2 : Int) : Option (jc_K × (Int ⊕ Nat)) := if l1 < 0 then (some (jc_cost K 1 6, .inr 0)) else (if l1 < 4 then (if l2 < 0 then (some (jc_cost K 1 6, .inr 0)) else (if l2 ≤ jc_i K 63 4 then (if jc_i K 2 8 = 0 then (if 0 ≤ l1 ∧ l1 < 4 then if jc_i K 58 l1 = 0 then (some (jc_cost K 1 6, .inr 1)) else ((fc90 (jc_ui K 61 l1 (-1)) l1).bind fun x9 => (fc92 (x9.1) l2 0).bind fun x11 => if x11.2 = 0 then ((fc140 (x11.1) (-4)).bind fun x14 => some (x14.1, .inl (x14.2))) else ((fc140 (x11.1) (jc_i (x11.1) 81 4)).bind fun x16 => some (x16.1, .inl (x16.2)))) else none) else (some (jc_cost K 1 6, .inr 1))) else (some (jc_cost K 1 6, .inr 0)))) else (some (jc_cost K 1 6, .inr 0)))
theorem jd112 {d : Nat} {σ0 : ib_H} {Q : ib_O → Prop} {K : jc_K} {l1 : Int} {l2 : Int} (hl1 : jb_r l1) (hl2 : jb_r l2) {r : (jc_K × (Int ⊕ Nat))} (h : fc112 K l1 l2 = some r) (k : ∀ σ, jc_S σ0 r.1 σ → (∀ v, r.2 = .inl v → jb_r v) → jc_E false r.2 σ Q) : jc_W σ0 K (d + 8) 112 0 [some (.ref 2), some (jb_v l1), some (jb_v l2)] [] Q := by
  intro σ s
  unfold fc112 at h
  refine jiL1 (p := 1) rfl jM112 jq112_0 ?_
  refine jw_callS [(jb_v l1)] jM112 jq112_1 rfl rfl rfl jM134 rfl rfl ?_
  show jb_w (d + 7) 134 0 [some (jb_v l1)] [] σ (jb_k (d + 8) 112 1 [some (.ref 2), some (jb_v l1), some (jb_v l2)] [] Q)
  refine jiL0 (p := 1) rfl jM134 jq134_0 ?_
  refine jw_if (p := 4) rfl jM134 jq134_1 (jc_lt hl1 jb_r0) (fun c1 => ?_) (fun c1 => ?_)
  · have h1 := jo_p c1 h
    cases h1
    exact jb_throw (k := 0) jM134 jq134_9 rfl (Nat.le_add_left_of_le (by decide)) (k _ (s.cost 1 6) (fun _ z => by cases z))
  · have h1 := jo_n c1 h
    refine jiL0 (p := 5) rfl jM134 jq134_4 ?_
    refine jw_iconst (p := 6) rfl jM134 jq134_5 ?_
    refine jw_ic (p := 9) rfl jM134 jq134_6 (jc_lt hl1 (jb_rn rfl)) (fun c2 => ?_) (fun c2 => ?_)
    · have h2 := jo_p c2 h1
      refine jw_vret jM134 jq134_20 ?_
      show jb_w (d + 8) 112 4 [some (.ref 2), some (jb_v l1), some (jb_v l2)] [] σ Q
      refine jiL2 (p := 5) rfl jM112 jq112_4 ?_
      refine jw_if (p := 8) rfl jM112 jq112_5 (jc_lt hl2 jb_r0) (fun c3 => ?_) (fun c3 => ?_)
      · have h3 := jo_p c3 h2
        cases h3
        exact jb_throw (k := 0) jM112 jq112_19 rfl (Nat.le_add_left_of_le (by decide)) (k _ (s.cost 1 6) (fun _ z => by cases z))
      · have h3 := jo_n c3 h2
        refine jiL2 (p := 9) rfl jM112 jq112_8 ?_
        refine jaL0 (p := 10) rfl jM112 jq112_9 ?_
        refine jw_getP (p := 13) (i := 2) (q := 63) rfl jM112 jq112_10 rfl (jo_2 s.1) je_10_2 (jp_2_2 s.1) ?_
        refine jc_getI (p := 16) (i := 4) rfl jM112 jq112_13 rfl (jo_63 s.1) jn_2_4 s (by decide) (by decide) rfl ?_
        refine jw_ic (p := 19) rfl jM112 jq112_16 (jc_le hl2 (s.r _ _)) (fun c4 => ?_) (fun c4 => ?_)
        · have h4 := jo_p c4 h3
          refine jaL0 (p := 30) rfl jM112 jq112_29 ?_
          refine jiL1 (p := 31) rfl jM112 jq112_30 ?_
          refine jw_callV [(jb_v l1)] jM112 jq112_31 rfl rfl (jo_2 s.1) rfl jM138 rfl rfl ?_
          show jb_w (d + 7) 138 0 [some (.ref 2), some (jb_v l1)] [] σ (jb_k (d + 8) 112 31 [some (.ref 2), some (jb_v l1), some (jb_v l2)] [] Q)
          refine jaL0 (p := 1) rfl jM138 jq138_0 ?_
          refine jw_callV [] jM138 jq138_1 rfl rfl (jo_2 s.1) rfl jM137 rfl rfl ?_
          show jb_w (d + 6) 137 0 [some (.ref 2)] [] σ (jb_k (d + 7) 138 1 [some (.ref 2), some (jb_v l1)] [] (jb_k (d + 8) 112 31 [some (.ref 2), some (jb_v l1), some (jb_v l2)] [] Q))
          refine jaL0 (p := 1) rfl jM137 jq137_0 ?_
          refine jc_getI (p := 4) (i := 8) rfl jM137 jq137_1 rfl (jo_2 s.1) jn_10_8 s (by decide) (by decide) rfl ?_
          refine jw_if (p := 7) rfl jM137 jq137_4 (jc_eq (s.r _ _) jb_r0) (fun c5 => ?_) (fun c5 => ?_)
          · have h5 := jo_p c5 h4
            refine jw_vret jM137 jq137_18 ?_
            show jb_w (d + 7) 138 4 [some (.ref 2), some (jb_v l1)] [] σ (jb_k (d + 8) 112 31 [some (.ref 2), some (jb_v l1), some (jb_v l2)] [] Q)
            refine jaL0 (p := 5) rfl jM138 jq138_4 ?_
            refine jw_getP (p := 8) (i := 1) (q := 57) rfl jM138 jq138_5 rfl (jo_2 s.1) je_10_1 (jp_2_1 s.1) ?_
            refine jw_getP (p := 11) (i := 0) (q := 58) rfl jM138 jq138_8 rfl (jo_57 s.1) je_6_0 (jp_57_0 s.1) ?_
            refine jiL1 (p := 12) rfl jM138 jq138_11 ?_
            obtain ⟨c6, h6⟩ := jo_i h5
            refine jc_bald (p := 13) rfl jM138 jq138_12 (ja_58 s.1) c6.1 c6.2 s (by decide) rfl ?_
            refine jw_if (p := 16) rfl jM138 jq138_13 (jc_ne (s.r _ _) jb_r0) (fun c7 => ?_) (fun c7 => ?_)
            · have h7 := jo_n c7 h6
              refine jw_vret jM138 jq138_27 ?_
              show jb_w (d + 8) 112 34 [some (.ref 2), some (jb_v l1), some (jb_v l2)] [] σ Q
              refine jaL0 (p := 35) rfl jM112 jq112_34 ?_
              refine jw_getP (p := 38) (i := 1) (q := 57) rfl jM112 jq112_35 rfl (jo_2 s.1) je_10_1 (jp_2_1 s.1) ?_
              refine jw_getP (p := 41) (i := 3) (q := 61) rfl jM112 jq112_38 rfl (jo_57 s.1) je_6_3 (jp_57_3 s.1) ?_
              refine jiL1 (p := 42) rfl jM112 jq112_41 ?_
              refine jw_iconst (p := 43) rfl jM112 jq112_42 ?_
              refine jc_iast (p := 44) rfl jM112 jq112_43 (ja_61 s.1) c6.1 c6.2 s (by decide) (jb_rn rfl) ?_
              intro σ8 s8
              refine jaL0 (p := 45) rfl jM112 jq112_44 ?_
              refine jw_getP (p := 48) (i := 5) (q := 81) rfl jM112 jq112_45 rfl (jo_2 s8.1) je_10_5 (jp_2_5 s8.1) ?_
              refine jiL1 (p := 49) rfl jM112 jq112_48 ?_
              refine jw_callV [(jb_v l1)] jM112 jq112_49 rfl rfl (jo_81 s8.1) rfl jM90 rfl rfl ?_
              obtain ⟨x9, b10, h10⟩ := jo_b h7
              refine jd90 hl1 b10 (fun σ9 s9 => ?_) σ8 s8
              show jb_w (d + 8) 112 52 [some (.ref 2), some (jb_v l1), some (jb_v l2)] [] σ9 Q
              refine jaL0 (p := 53) rfl jM112 jq112_52 ?_
              refine jaL0 (p := 54) rfl jM112 jq112_53 ?_
              refine jw_getP (p := 57) (i := 5) (q := 81) rfl jM112 jq112_54 rfl (jo_2 s9.1) je_10_5 (jp_2_5 s9.1) ?_
              refine jiL2 (p := 58) rfl jM112 jq112_57 ?_
              refine jw_iconst (p := 59) rfl jM112 jq112_58 ?_
              refine jw_callV [(jb_v l2), (jb_v 0)] jM112 jq112_59 rfl rfl (jo_81 s9.1) rfl jM92 rfl rfl ?_
              obtain ⟨x11, b12, h12⟩ := jo_b h10
              refine jd92 hl2 (jb_rn rfl) b12 (fun σ11 s11 r11 => ?_) σ9 s9
              show jb_w (d + 8) 112 62 [some (.ref 2), some (jb_v l1), some (jb_v l2)] [(jb_v (x11.2)), (.ref 2)] σ11 Q
              refine jw_if (p := 65) rfl jM112 jq112_62 (jc_eq r11 jb_r0) (fun c13 => ?_) (fun c13 => ?_)
              · have h13 := jo_p c13 h12
                refine jw_bipush (p := 77) rfl jM112 jq112_75 (by decide) ?_
                refine jw_callV [(jb_v (-4))] jM112 jq112_77 rfl rfl (jo_2 s11.1) rfl jM140 rfl rfl ?_
                obtain ⟨x14, b15, h15⟩ := jo_b h13
                refine jd140 (jb_rn rfl) b15 (fun σ14 s14 r14 => ?_) σ11 s11
                show jb_w (d + 8) 112 80 [some (.ref 2), some (jb_v l1), some (jb_v l2)] [(jb_v (x14.2))] σ14 Q
                cases h15
                exact jw_iret jM112 jq112_80 (fun z => absurd z (by decide)) (k σ14 s14 (fun _ z => by cases z; exact r14))
              · have h13 := jo_n c13 h12
                refine jaL0 (p := 66) rfl jM112 jq112_65 ?_
                refine jw_getP (p := 69) (i := 5) (q := 81) rfl jM112 jq112_66 rfl (jo_2 s11.1) je_10_5 (jp_2_5 s11.1) ?_
                refine jc_getI (p := 72) (i := 4) rfl jM112 jq112_69 rfl (jo_81 s11.1) jn_8_4 s11 (by decide) (by decide) rfl ?_
                refine jw_goto jM112 jq112_72 ?_
                refine jw_callV [(jb_v (jc_i (x11.1) 81 4))] jM112 jq112_77 rfl rfl (jo_2 s11.1) rfl jM140 rfl rfl ?_
                obtain ⟨x16, b17, h17⟩ := jo_b h13
                refine jd140 (s11.r _ _) b17 (fun σ16 s16 r16 => ?_) σ11 s11
                show jb_w (d + 8) 112 80 [some (.ref 2), some (jb_v l1), some (jb_v l2)] [(jb_v (x16.2))] σ16 Q
                cases h17
                exact jw_iret jM112 jq112_80 (fun z => absurd z (by decide)) (k σ16 s16 (fun _ z => by cases z; exact r16))
            · have h7 := jo_p (Decidable.byContradiction c7) h6
              cases h7
              exact jb_throw (k := 1) jM138 jq138_16 rfl (Nat.le_add_left_of_le (by decide)) (k _ (s.cost 1 6) (fun _ z => by cases z))
          · have h5 := jo_n c5 h4
            cases h5
            exact jb_throw (k := 1) jM137 jq137_7 rfl (Nat.le_add_left_of_le (by decide)) (k _ (s.cost 1 6) (fun _ z => by cases z))
        · have h4 := jo_n c4 h3
          cases h4
          exact jb_throw (k := 0) jM112 jq112_19 rfl (Nat.le_add_left_of_le (by decide)) (k _ (s.cost 1 6) (fun _ z => by cases z))
    · have h2 := jo_n c2 h1
      cases h2
      exact jb_throw (k := 0) jM134 jq134_9 rfl (Nat.le_add_left_of_le (by decide)) (k _ (s.cost 1 6) (fun _ z => by cases z))
-- 113 PageLoom.commit need 8
def fc113 (K : jc_K) (l1 : Int) : Option (jc_K × (Int ⊕ Nat)) := if l1 < 0 then (some (jc_cost K 1 6, .inr 0)) else (if l1 < 4 then (if jc_i K 2 8 = 0 then (if 0 ≤ l1 ∧ l1 < 4 then if jc_i K 58 l1 = 0 then (some (jc_cost K 1 6, .inr 1)) else ((fc20 K 2 l1).bind fun x6 => if x6.2 = 0 then ((fc140 (x6.1) (-4)).bind fun x9 => some (x9.1, .inl (x9.2))) else ((fc13 (x6.1) (jc_i (x6.1) 63 4)).bind fun x11 => if x11.2 = 0 then ((fc140 (x11.1) (-4)).bind fun x16 => some (x16.1, .inl (x16.2))) else ((fc63 (x11.1) l1).bind fun x14 => some (x14.1, .inl (jc_i (x14.1) 63 4))))) else none) else (some (jc_cost K 1 6, .inr 1))) else (some (jc_cost K 1 6, .inr 0)))
theorem jd113 {d : Nat} {σ0 : ib_H} {Q : ib_O → Prop} {K : jc_K} {l1 : Int} (hl1 : jb_r l1) {r : (jc_K × (Int ⊕ Nat))} (h : fc113 K l1 = some r) (k : ∀ σ, jc_S σ0 r.1 σ → (∀ v, r.2 = .inl v → jb_r v) → jc_E false r.2 σ Q) : jc_W σ0 K (d + 8) 113 0 [some (.ref 2), some (jb_v l1)] [] Q := by
  intro σ s
  unfold fc113 at h
  refine jiL1 (p := 1) rfl jM113 jq113_0 ?_
  refine jw_callS [(jb_v l1)] jM113 jq113_1 rfl rfl rfl jM134 rfl rfl ?_
  show jb_w (d + 7) 134 0 [some (jb_v l1)] [] σ (jb_k (d + 8) 113 1 [some (.ref 2), some (jb_v l1)] [] Q)
  refine jiL0 (p := 1) rfl jM134 jq134_0 ?_
  refine jw_if (p := 4) rfl jM134 jq134_1 (jc_lt hl1 jb_r0) (fun c1 => ?_) (fun c1 => ?_)
  · have h1 := jo_p c1 h
    cases h1
    exact jb_throw (k := 0) jM134 jq134_9 rfl (Nat.le_add_left_of_le (by decide)) (k _ (s.cost 1 6) (fun _ z => by cases z))
  · have h1 := jo_n c1 h
    refine jiL0 (p := 5) rfl jM134 jq134_4 ?_
    refine jw_iconst (p := 6) rfl jM134 jq134_5 ?_
    refine jw_ic (p := 9) rfl jM134 jq134_6 (jc_lt hl1 (jb_rn rfl)) (fun c2 => ?_) (fun c2 => ?_)
    · have h2 := jo_p c2 h1
      refine jw_vret jM134 jq134_20 ?_
      show jb_w (d + 8) 113 4 [some (.ref 2), some (jb_v l1)] [] σ Q
      refine jaL0 (p := 5) rfl jM113 jq113_4 ?_
      refine jiL1 (p := 6) rfl jM113 jq113_5 ?_
      refine jw_callV [(jb_v l1)] jM113 jq113_6 rfl rfl (jo_2 s.1) rfl jM138 rfl rfl ?_
      show jb_w (d + 7) 138 0 [some (.ref 2), some (jb_v l1)] [] σ (jb_k (d + 8) 113 6 [some (.ref 2), some (jb_v l1)] [] Q)
      refine jaL0 (p := 1) rfl jM138 jq138_0 ?_
      refine jw_callV [] jM138 jq138_1 rfl rfl (jo_2 s.1) rfl jM137 rfl rfl ?_
      show jb_w (d + 6) 137 0 [some (.ref 2)] [] σ (jb_k (d + 7) 138 1 [some (.ref 2), some (jb_v l1)] [] (jb_k (d + 8) 113 6 [some (.ref 2), some (jb_v l1)] [] Q))
      refine jaL0 (p := 1) rfl jM137 jq137_0 ?_
      refine jc_getI (p := 4) (i := 8) rfl jM137 jq137_1 rfl (jo_2 s.1) jn_10_8 s (by decide) (by decide) rfl ?_
      refine jw_if (p := 7) rfl jM137 jq137_4 (jc_eq (s.r _ _) jb_r0) (fun c3 => ?_) (fun c3 => ?_)
      · have h3 := jo_p c3 h2
        refine jw_vret jM137 jq137_18 ?_
        show jb_w (d + 7) 138 4 [some (.ref 2), some (jb_v l1)] [] σ (jb_k (d + 8) 113 6 [some (.ref 2), some (jb_v l1)] [] Q)
        refine jaL0 (p := 5) rfl jM138 jq138_4 ?_
        refine jw_getP (p := 8) (i := 1) (q := 57) rfl jM138 jq138_5 rfl (jo_2 s.1) je_10_1 (jp_2_1 s.1) ?_
        refine jw_getP (p := 11) (i := 0) (q := 58) rfl jM138 jq138_8 rfl (jo_57 s.1) je_6_0 (jp_57_0 s.1) ?_
        refine jiL1 (p := 12) rfl jM138 jq138_11 ?_
        obtain ⟨c4, h4⟩ := jo_i h3
        refine jc_bald (p := 13) rfl jM138 jq138_12 (ja_58 s.1) c4.1 c4.2 s (by decide) rfl ?_
        refine jw_if (p := 16) rfl jM138 jq138_13 (jc_ne (s.r _ _) jb_r0) (fun c5 => ?_) (fun c5 => ?_)
        · have h5 := jo_n c5 h4
          refine jw_vret jM138 jq138_27 ?_
          show jb_w (d + 8) 113 9 [some (.ref 2), some (jb_v l1)] [] σ Q
          refine jaL0 (p := 10) rfl jM113 jq113_9 ?_
          refine jw_getP (p := 13) (i := 2) (q := 63) rfl jM113 jq113_10 rfl (jo_2 s.1) je_10_2 (jp_2_2 s.1) ?_
          refine jw_iconst (p := 14) rfl jM113 jq113_13 ?_
          refine jiL1 (p := 15) rfl jM113 jq113_14 ?_
          refine jw_callV [(jb_v 2), (jb_v l1)] jM113 jq113_15 rfl rfl (jo_63 s.1) rfl jM20 rfl rfl ?_
          obtain ⟨x6, b7, h7⟩ := jo_b h5
          refine jd20 (jb_rn rfl) hl1 b7 (fun σ6 s6 => ?_) σ s
          show jb_w (d + 8) 113 18 [some (.ref 2), some (jb_v l1)] [(.ref (x6.2))] σ6 Q
          refine jw_ifnull (p := 21) rfl jM113 jq113_18 (fun c8 => ?_) (fun c8 => ?_)
          · have h8 := jo_p c8 h7
            refine jaL0 (p := 39) rfl jM113 jq113_38 ?_
            refine jw_bipush (p := 41) rfl jM113 jq113_39 (by decide) ?_
            refine jw_callV [(jb_v (-4))] jM113 jq113_41 rfl rfl (jo_2 s6.1) rfl jM140 rfl rfl ?_
            obtain ⟨x9, b10, h10⟩ := jo_b h8
            refine jd140 (jb_rn rfl) b10 (fun σ9 s9 r9 => ?_) σ6 s6
            show jb_w (d + 8) 113 44 [some (.ref 2), some (jb_v l1)] [(jb_v (x9.2))] σ9 Q
            cases h10
            exact jw_iret jM113 jq113_44 (fun z => absurd z (by decide)) (k σ9 s9 (fun _ z => by cases z; exact r9))
          · have h8 := jo_n c8 h7
            refine jaL0 (p := 22) rfl jM113 jq113_21 ?_
            refine jw_getP (p := 25) (i := 0) (q := 3) rfl jM113 jq113_22 rfl (jo_2 s6.1) je_10_0 (jp_2_0 s6.1) ?_
            refine jaL0 (p := 26) rfl jM113 jq113_25 ?_
            refine jw_getP (p := 29) (i := 2) (q := 63) rfl jM113 jq113_26 rfl (jo_2 s6.1) je_10_2 (jp_2_2 s6.1) ?_
            refine jc_getI (p := 32) (i := 4) rfl jM113 jq113_29 rfl (jo_63 s6.1) jn_2_4 s6 (by decide) (by decide) rfl ?_
            refine jw_callV [(jb_v (jc_i (x6.1) 63 4))] jM113 jq113_32 rfl rfl (jo_3 s6.1) rfl jM13 rfl rfl ?_
            obtain ⟨x11, b12, h12⟩ := jo_b h8
            refine jd13 (s6.r _ _) b12 (fun σ11 s11 r11 => ?_) σ6 s6
            show jb_w (d + 8) 113 35 [some (.ref 2), some (jb_v l1)] [(jb_v (x11.2))] σ11 Q
            refine jw_if (p := 38) rfl jM113 jq113_35 (jc_ne r11 jb_r0) (fun c13 => ?_) (fun c13 => ?_)
            · have h13 := jo_n c13 h12
              refine jaL0 (p := 46) rfl jM113 jq113_45 ?_
              refine jw_getP (p := 49) (i := 1) (q := 57) rfl jM113 jq113_46 rfl (jo_2 s11.1) je_10_1 (jp_2_1 s11.1) ?_
              refine jiL1 (p := 50) rfl jM113 jq113_49 ?_
              refine jw_callV [(jb_v l1)] jM113 jq113_50 rfl rfl (jo_57 s11.1) rfl jM63 rfl rfl ?_
              obtain ⟨x14, b15, h15⟩ := jo_b h13
              refine jd63 hl1 b15 (fun σ14 s14 => ?_) σ11 s11
              show jb_w (d + 8) 113 53 [some (.ref 2), some (jb_v l1)] [] σ14 Q
              refine jaL0 (p := 54) rfl jM113 jq113_53 ?_
              refine jw_getP (p := 57) (i := 2) (q := 63) rfl jM113 jq113_54 rfl (jo_2 s14.1) je_10_2 (jp_2_2 s14.1) ?_
              refine jc_getI (p := 60) (i := 4) rfl jM113 jq113_57 rfl (jo_63 s14.1) jn_2_4 s14 (by decide) (by decide) rfl ?_
              cases h15
              exact jw_iret jM113 jq113_60 (fun z => absurd z (by decide)) (k σ14 s14 (fun _ z => by cases z; exact (s14.r _ _)))
            · have h13 := jo_p (Decidable.byContradiction c13) h12
              refine jaL0 (p := 39) rfl jM113 jq113_38 ?_
              refine jw_bipush (p := 41) rfl jM113 jq113_39 (by decide) ?_
              refine jw_callV [(jb_v (-4))] jM113 jq113_41 rfl rfl (jo_2 s11.1) rfl jM140 rfl rfl ?_
              obtain ⟨x16, b17, h17⟩ := jo_b h13
              refine jd140 (jb_rn rfl) b17 (fun σ16 s16 r16 => ?_) σ11 s11
              show jb_w (d + 8) 113 44 [some (.ref 2), some (jb_v l1)] [(jb_v (x16.2))] σ16 Q
              cases h17
              exact jw_iret jM113 jq113_44 (fun z => absurd z (by decide)) (k σ16 s16 (fun _ z => by cases z; exact r16))
        · have h5 := jo_p (Decidable.byContradiction c5) h4
          cases h5
          exact jb_throw (k := 1) jM138 jq138_16 rfl (Nat.le_add_left_of_le (by decide)) (k _ (s.cost 1 6) (fun _ z => by cases z))
      · have h3 := jo_n c3 h2
        cases h3
        exact jb_throw (k := 1) jM137 jq137_7 rfl (Nat.le_add_left_of_le (by decide)) (k _ (s.cost 1 6) (fun _ z => by cases z))
    · have h2 := jo_n c2 h1
      cases h2
      exact jb_throw (k := 0) jM134 jq134_9 rfl (Nat.le_add_left_of_le (by decide)) (k _ (s.cost 1 6) (fun _ z => by cases z))
-- 114 PageLoom.undo need 8
def fc114 (K : jc_K) (l1 : Int) : Option (jc_K × (Int ⊕ Nat)) := if l1 < 0 then (some (jc_cost K 1 6, .inr 0)) else (if l1 < 4 then (if jc_i K 2 8 = 0 then (if 0 ≤ l1 ∧ l1 < 4 then if jc_i K 58 l1 = 0 then (some (jc_cost K 1 6, .inr 1)) else ((fc90 K l1).bind fun x6 => (fc92 (x6.1) 0 1).bind fun x8 => if x8.2 = 0 then ((fc140 (x8.1) (-4)).bind fun x11 => some (x11.1, .inl (x11.2))) else ((fc140 (x8.1) (jc_i (x8.1) 81 4)).bind fun x13 => some (x13.1, .inl (x13.2)))) else none) else (some (jc_cost K 1 6, .inr 1))) else (some (jc_cost K 1 6, .inr 0)))
theorem jd114 {d : Nat} {σ0 : ib_H} {Q : ib_O → Prop} {K : jc_K} {l1 : Int} (hl1 : jb_r l1) {r : (jc_K × (Int ⊕ Nat))} (h : fc114 K l1 = some r) (k : ∀ σ, jc_S σ0 r.1 σ → (∀ v, r.2 = .inl v → jb_r v) → jc_E false r.2 σ Q) : jc_W σ0 K (d + 8) 114 0 [some (.ref 2), some (jb_v l1)] [] Q := by
  intro σ s
  unfold fc114 at h
  refine jiL1 (p := 1) rfl jM114 jq114_0 ?_
  refine jw_callS [(jb_v l1)] jM114 jq114_1 rfl rfl rfl jM134 rfl rfl ?_
  show jb_w (d + 7) 134 0 [some (jb_v l1)] [] σ (jb_k (d + 8) 114 1 [some (.ref 2), some (jb_v l1)] [] Q)
  refine jiL0 (p := 1) rfl jM134 jq134_0 ?_
  refine jw_if (p := 4) rfl jM134 jq134_1 (jc_lt hl1 jb_r0) (fun c1 => ?_) (fun c1 => ?_)
  · have h1 := jo_p c1 h
    cases h1
    exact jb_throw (k := 0) jM134 jq134_9 rfl (Nat.le_add_left_of_le (by decide)) (k _ (s.cost 1 6) (fun _ z => by cases z))
  · have h1 := jo_n c1 h
    refine jiL0 (p := 5) rfl jM134 jq134_4 ?_
    refine jw_iconst (p := 6) rfl jM134 jq134_5 ?_
    refine jw_ic (p := 9) rfl jM134 jq134_6 (jc_lt hl1 (jb_rn rfl)) (fun c2 => ?_) (fun c2 => ?_)
    · have h2 := jo_p c2 h1
      refine jw_vret jM134 jq134_20 ?_
      show jb_w (d + 8) 114 4 [some (.ref 2), some (jb_v l1)] [] σ Q
      refine jaL0 (p := 5) rfl jM114 jq114_4 ?_
      refine jiL1 (p := 6) rfl jM114 jq114_5 ?_
      refine jw_callV [(jb_v l1)] jM114 jq114_6 rfl rfl (jo_2 s.1) rfl jM138 rfl rfl ?_
      show jb_w (d + 7) 138 0 [some (.ref 2), some (jb_v l1)] [] σ (jb_k (d + 8) 114 6 [some (.ref 2), some (jb_v l1)] [] Q)
      refine jaL0 (p := 1) rfl jM138 jq138_0 ?_
      refine jw_callV [] jM138 jq138_1 rfl rfl (jo_2 s.1) rfl jM137 rfl rfl ?_
      show jb_w (d + 6) 137 0 [some (.ref 2)] [] σ (jb_k (d + 7) 138 1 [some (.ref 2), some (jb_v l1)] [] (jb_k (d + 8) 114 6 [some (.ref 2), some (jb_v l1)] [] Q))
      refine jaL0 (p := 1) rfl jM137 jq137_0 ?_
      refine jc_getI (p := 4) (i := 8) rfl jM137 jq137_1 rfl (jo_2 s.1) jn_10_8 s (by decide) (by decide) rfl ?_
      refine jw_if (p := 7) rfl jM137 jq137_4 (jc_eq (s.r _ _) jb_r0) (fun c3 => ?_) (fun c3 => ?_)
      · have h3 := jo_p c3 h2
        refine jw_vret jM137 jq137_18 ?_
        show jb_w (d + 7) 138 4 [some (.ref 2), some (jb_v l1)] [] σ (jb_k (d + 8) 114 6 [some (.ref 2), some (jb_v l1)] [] Q)
        refine jaL0 (p := 5) rfl jM138 jq138_4 ?_
        refine jw_getP (p := 8) (i := 1) (q := 57) rfl jM138 jq138_5 rfl (jo_2 s.1) je_10_1 (jp_2_1 s.1) ?_
        refine jw_getP (p := 11) (i := 0) (q := 58) rfl jM138 jq138_8 rfl (jo_57 s.1) je_6_0 (jp_57_0 s.1) ?_
        refine jiL1 (p := 12) rfl jM138 jq138_11 ?_
        obtain ⟨c4, h4⟩ := jo_i h3
        refine jc_bald (p := 13) rfl jM138 jq138_12 (ja_58 s.1) c4.1 c4.2 s (by decide) rfl ?_
        refine jw_if (p := 16) rfl jM138 jq138_13 (jc_ne (s.r _ _) jb_r0) (fun c5 => ?_) (fun c5 => ?_)
        · have h5 := jo_n c5 h4
          refine jw_vret jM138 jq138_27 ?_
          show jb_w (d + 8) 114 9 [some (.ref 2), some (jb_v l1)] [] σ Q
          refine jaL0 (p := 10) rfl jM114 jq114_9 ?_
          refine jw_getP (p := 13) (i := 5) (q := 81) rfl jM114 jq114_10 rfl (jo_2 s.1) je_10_5 (jp_2_5 s.1) ?_
          refine jiL1 (p := 14) rfl jM114 jq114_13 ?_
          refine jw_callV [(jb_v l1)] jM114 jq114_14 rfl rfl (jo_81 s.1) rfl jM90 rfl rfl ?_
          obtain ⟨x6, b7, h7⟩ := jo_b h5
          refine jd90 hl1 b7 (fun σ6 s6 => ?_) σ s
          show jb_w (d + 8) 114 17 [some (.ref 2), some (jb_v l1)] [] σ6 Q
          refine jaL0 (p := 18) rfl jM114 jq114_17 ?_
          refine jaL0 (p := 19) rfl jM114 jq114_18 ?_
          refine jw_getP (p := 22) (i := 5) (q := 81) rfl jM114 jq114_19 rfl (jo_2 s6.1) je_10_5 (jp_2_5 s6.1) ?_
          refine jw_iconst (p := 23) rfl jM114 jq114_22 ?_
          refine jw_iconst (p := 24) rfl jM114 jq114_23 ?_
          refine jw_callV [(jb_v 0), (jb_v 1)] jM114 jq114_24 rfl rfl (jo_81 s6.1) rfl jM92 rfl rfl ?_
          obtain ⟨x8, b9, h9⟩ := jo_b h7
          refine jd92 (jb_rn rfl) (jb_rn rfl) b9 (fun σ8 s8 r8 => ?_) σ6 s6
          show jb_w (d + 8) 114 27 [some (.ref 2), some (jb_v l1)] [(jb_v (x8.2)), (.ref 2)] σ8 Q
          refine jw_if (p := 30) rfl jM114 jq114_27 (jc_eq r8 jb_r0) (fun c10 => ?_) (fun c10 => ?_)
          · have h10 := jo_p c10 h9
            refine jw_bipush (p := 42) rfl jM114 jq114_40 (by decide) ?_
            refine jw_callV [(jb_v (-4))] jM114 jq114_42 rfl rfl (jo_2 s8.1) rfl jM140 rfl rfl ?_
            obtain ⟨x11, b12, h12⟩ := jo_b h10
            refine jd140 (jb_rn rfl) b12 (fun σ11 s11 r11 => ?_) σ8 s8
            show jb_w (d + 8) 114 45 [some (.ref 2), some (jb_v l1)] [(jb_v (x11.2))] σ11 Q
            cases h12
            exact jw_iret jM114 jq114_45 (fun z => absurd z (by decide)) (k σ11 s11 (fun _ z => by cases z; exact r11))
          · have h10 := jo_n c10 h9
            refine jaL0 (p := 31) rfl jM114 jq114_30 ?_
            refine jw_getP (p := 34) (i := 5) (q := 81) rfl jM114 jq114_31 rfl (jo_2 s8.1) je_10_5 (jp_2_5 s8.1) ?_
            refine jc_getI (p := 37) (i := 4) rfl jM114 jq114_34 rfl (jo_81 s8.1) jn_8_4 s8 (by decide) (by decide) rfl ?_
            refine jw_goto jM114 jq114_37 ?_
            refine jw_callV [(jb_v (jc_i (x8.1) 81 4))] jM114 jq114_42 rfl rfl (jo_2 s8.1) rfl jM140 rfl rfl ?_
            obtain ⟨x13, b14, h14⟩ := jo_b h10
            refine jd140 (s8.r _ _) b14 (fun σ13 s13 r13 => ?_) σ8 s8
            show jb_w (d + 8) 114 45 [some (.ref 2), some (jb_v l1)] [(jb_v (x13.2))] σ13 Q
            cases h14
            exact jw_iret jM114 jq114_45 (fun z => absurd z (by decide)) (k σ13 s13 (fun _ z => by cases z; exact r13))
        · have h5 := jo_p (Decidable.byContradiction c5) h4
          cases h5
          exact jb_throw (k := 1) jM138 jq138_16 rfl (Nat.le_add_left_of_le (by decide)) (k _ (s.cost 1 6) (fun _ z => by cases z))
      · have h3 := jo_n c3 h2
        cases h3
        exact jb_throw (k := 1) jM137 jq137_7 rfl (Nat.le_add_left_of_le (by decide)) (k _ (s.cost 1 6) (fun _ z => by cases z))
    · have h2 := jo_n c2 h1
      cases h2
      exact jb_throw (k := 0) jM134 jq134_9 rfl (Nat.le_add_left_of_le (by decide)) (k _ (s.cost 1 6) (fun _ z => by cases z))
-- 115 PageLoom.mark need 7
def fc115 (K : jc_K) : Option (jc_K × (Int ⊕ Nat)) := if jc_i K 2 8 = 0 then (if jc_i K 63 4 < 200 then ((fc20 K 4 (-1)).bind fun x3 => if x3.2 = 0 then ((fc140 (x3.1) (-4)).bind fun x17 => some (x17.1, .inl (x17.2))) else ((fc67 (x3.1) (x3.2)).bind fun x6 => (fc10 (x6.1) (x3.2)).bind fun x8 => (fc13 (x8.1) (jc_i (x8.1) 63 4)).bind fun x10 => if x10.2 = 0 then ((fc140 (x10.1) (-4)).bind fun x13 => some (x13.1, .inl (x13.2))) else ((fc140 (x10.1) (jc_i (x10.1) 63 4)).bind fun x15 => some (x15.1, .inl (x15.2))))) else (some (jc_cost K 1 6, .inr 1))) else (some (jc_cost K 1 6, .inr 1))
theorem jd115 {d : Nat} {σ0 : ib_H} {Q : ib_O → Prop} {K : jc_K} {r : (jc_K × (Int ⊕ Nat))} (h : fc115 K  = some r) (k : ∀ σ, jc_S σ0 r.1 σ → (∀ v, r.2 = .inl v → jb_r v) → jc_E false r.2 σ Q) : jc_W σ0 K (d + 7) 115 0 [some (.ref 2), none] [] Q := by
  intro σ s
  unfold fc115 at h
  refine jaL0 (p := 1) rfl jM115 jq115_0 ?_
  refine jw_callV [] jM115 jq115_1 rfl rfl (jo_2 s.1) rfl jM137 rfl rfl ?_
  show jb_w (d + 6) 137 0 [some (.ref 2)] [] σ (jb_k (d + 7) 115 1 [some (.ref 2), none] [] Q)
  refine jaL0 (p := 1) rfl jM137 jq137_0 ?_
  refine jc_getI (p := 4) (i := 8) rfl jM137 jq137_1 rfl (jo_2 s.1) jn_10_8 s (by decide) (by decide) rfl ?_
  refine jw_if (p := 7) rfl jM137 jq137_4 (jc_eq (s.r _ _) jb_r0) (fun c1 => ?_) (fun c1 => ?_)
  · have h1 := jo_p c1 h
    refine jw_vret jM137 jq137_18 ?_
    show jb_w (d + 7) 115 4 [some (.ref 2), none] [] σ Q
    refine jaL0 (p := 5) rfl jM115 jq115_4 ?_
    refine jw_callV [] jM115 jq115_5 rfl rfl (jo_2 s.1) rfl jM139 rfl rfl ?_
    show jb_w (d + 6) 139 0 [some (.ref 2)] [] σ (jb_k (d + 7) 115 5 [some (.ref 2), none] [] Q)
    refine jaL0 (p := 1) rfl jM139 jq139_0 ?_
    refine jw_getP (p := 4) (i := 2) (q := 63) rfl jM139 jq139_1 rfl (jo_2 s.1) je_10_2 (jp_2_2 s.1) ?_
    refine jc_getI (p := 7) (i := 4) rfl jM139 jq139_4 rfl (jo_63 s.1) jn_2_4 s (by decide) (by decide) rfl ?_
    refine jw_sipush (p := 10) rfl jM139 jq139_7 (by decide) ?_
    refine jw_ic (p := 13) rfl jM139 jq139_10 (jc_lt (s.r _ _) (jb_rn rfl)) (fun c2 => ?_) (fun c2 => ?_)
    · have h2 := jo_p c2 h1
      refine jw_vret jM139 jq139_24 ?_
      show jb_w (d + 7) 115 8 [some (.ref 2), none] [] σ Q
      refine jaL0 (p := 9) rfl jM115 jq115_8 ?_
      refine jw_getP (p := 12) (i := 2) (q := 63) rfl jM115 jq115_9 rfl (jo_2 s.1) je_10_2 (jp_2_2 s.1) ?_
      refine jw_iconst (p := 13) rfl jM115 jq115_12 ?_
      refine jw_iconst (p := 14) rfl jM115 jq115_13 ?_
      refine jw_callV [(jb_v 4), (jb_v (-1))] jM115 jq115_14 rfl rfl (jo_63 s.1) rfl jM20 rfl rfl ?_
      obtain ⟨x3, b4, h4⟩ := jo_b h2
      refine jd20 (jb_rn rfl) (jb_rn rfl) b4 (fun σ3 s3 => ?_) σ s
      show jb_w (d + 7) 115 17 [some (.ref 2), none] [(.ref (x3.2))] σ3 Q
      refine jaS1 (p := 18) rfl jM115 jq115_17 ?_
      refine jaL1 (p := 19) rfl jM115 jq115_18 ?_
      refine jw_ifnonnull (p := 22) rfl jM115 jq115_19 (fun c5 => ?_) (fun c5 => ?_)
      · have h5 := jo_n c5 h4
        refine jaL0 (p := 30) rfl jM115 jq115_29 ?_
        refine jw_getP (p := 33) (i := 1) (q := 57) rfl jM115 jq115_30 rfl (jo_2 s3.1) je_10_1 (jp_2_1 s3.1) ?_
        refine jaL1 (p := 34) rfl jM115 jq115_33 ?_
        refine jw_callV [(.ref (x3.2))] jM115 jq115_34 rfl rfl (jo_57 s3.1) rfl jM67 rfl rfl ?_
        obtain ⟨x6, b7, h7⟩ := jo_b h5
        refine jd67  b7 (fun σ6 s6 => ?_) σ3 s3
        show jb_w (d + 7) 115 37 [some (.ref 2), some (.ref (x3.2))] [] σ6 Q
        refine jaL0 (p := 38) rfl jM115 jq115_37 ?_
        refine jw_getP (p := 41) (i := 3) (q := 66) rfl jM115 jq115_38 rfl (jo_2 s6.1) je_10_3 (jp_2_3 s6.1) ?_
        refine jaL1 (p := 42) rfl jM115 jq115_41 ?_
        refine jw_callV [(.ref (x3.2))] jM115 jq115_42 rfl rfl (jo_66 s6.1) rfl jM10 rfl rfl ?_
        obtain ⟨x8, b9, h9⟩ := jo_b h7
        refine jd10  b9 (fun σ8 s8 => ?_) σ6 s6
        show jb_w (d + 7) 115 45 [some (.ref 2), some (.ref (x3.2))] [] σ8 Q
        refine jaL0 (p := 46) rfl jM115 jq115_45 ?_
        refine jaL0 (p := 47) rfl jM115 jq115_46 ?_
        refine jw_getP (p := 50) (i := 0) (q := 3) rfl jM115 jq115_47 rfl (jo_2 s8.1) je_10_0 (jp_2_0 s8.1) ?_
        refine jaL0 (p := 51) rfl jM115 jq115_50 ?_
        refine jw_getP (p := 54) (i := 2) (q := 63) rfl jM115 jq115_51 rfl (jo_2 s8.1) je_10_2 (jp_2_2 s8.1) ?_
        refine jc_getI (p := 57) (i := 4) rfl jM115 jq115_54 rfl (jo_63 s8.1) jn_2_4 s8 (by decide) (by decide) rfl ?_
        refine jw_callV [(jb_v (jc_i (x8.1) 63 4))] jM115 jq115_57 rfl rfl (jo_3 s8.1) rfl jM13 rfl rfl ?_
        obtain ⟨x10, b11, h11⟩ := jo_b h9
        refine jd13 (s8.r _ _) b11 (fun σ10 s10 r10 => ?_) σ8 s8
        show jb_w (d + 7) 115 60 [some (.ref 2), some (.ref (x3.2))] [(jb_v (x10.2)), (.ref 2)] σ10 Q
        refine jw_if (p := 63) rfl jM115 jq115_60 (jc_eq r10 jb_r0) (fun c12 => ?_) (fun c12 => ?_)
        · have h12 := jo_p c12 h11
          refine jw_bipush (p := 75) rfl jM115 jq115_73 (by decide) ?_
          refine jw_callV [(jb_v (-4))] jM115 jq115_75 rfl rfl (jo_2 s10.1) rfl jM140 rfl rfl ?_
          obtain ⟨x13, b14, h14⟩ := jo_b h12
          refine jd140 (jb_rn rfl) b14 (fun σ13 s13 r13 => ?_) σ10 s10
          show jb_w (d + 7) 115 78 [some (.ref 2), some (.ref (x3.2))] [(jb_v (x13.2))] σ13 Q
          cases h14
          exact jw_iret jM115 jq115_78 (fun z => absurd z (by decide)) (k σ13 s13 (fun _ z => by cases z; exact r13))
        · have h12 := jo_n c12 h11
          refine jaL0 (p := 64) rfl jM115 jq115_63 ?_
          refine jw_getP (p := 67) (i := 2) (q := 63) rfl jM115 jq115_64 rfl (jo_2 s10.1) je_10_2 (jp_2_2 s10.1) ?_
          refine jc_getI (p := 70) (i := 4) rfl jM115 jq115_67 rfl (jo_63 s10.1) jn_2_4 s10 (by decide) (by decide) rfl ?_
          refine jw_goto jM115 jq115_70 ?_
          refine jw_callV [(jb_v (jc_i (x10.1) 63 4))] jM115 jq115_75 rfl rfl (jo_2 s10.1) rfl jM140 rfl rfl ?_
          obtain ⟨x15, b16, h16⟩ := jo_b h12
          refine jd140 (s10.r _ _) b16 (fun σ15 s15 r15 => ?_) σ10 s10
          show jb_w (d + 7) 115 78 [some (.ref 2), some (.ref (x3.2))] [(jb_v (x15.2))] σ15 Q
          cases h16
          exact jw_iret jM115 jq115_78 (fun z => absurd z (by decide)) (k σ15 s15 (fun _ z => by cases z; exact r15))
      · have h5 := jo_p c5 h4
        refine jaL0 (p := 23) rfl jM115 jq115_22 ?_
        refine jw_bipush (p := 25) rfl jM115 jq115_23 (by decide) ?_
        refine jw_callV [(jb_v (-4))] jM115 jq115_25 rfl rfl (jo_2 s3.1) rfl jM140 rfl rfl ?_
        obtain ⟨x17, b18, h18⟩ := jo_b h5
        refine jd140 (jb_rn rfl) b18 (fun σ17 s17 r17 => ?_) σ3 s3
        show jb_w (d + 7) 115 28 [some (.ref 2), some (.ref (x3.2))] [(jb_v (x17.2))] σ17 Q
        cases h18
        exact jw_iret jM115 jq115_28 (fun z => absurd z (by decide)) (k σ17 s17 (fun _ z => by cases z; exact r17))
    · have h2 := jo_n c2 h1
      cases h2
      exact jb_throw (k := 1) jM139 jq139_13 rfl (Nat.le_add_left_of_le (by decide)) (k _ (s.cost 1 6) (fun _ z => by cases z))
  · have h1 := jo_n c1 h
    cases h1
    exact jb_throw (k := 1) jM137 jq137_7 rfl (Nat.le_add_left_of_le (by decide)) (k _ (s.cost 1 6) (fun _ z => by cases z))
-- 116 PageLoom.write need 7
def fc116 (K : jc_K) (l1 : Int) : Option (jc_K × (Int ⊕ Nat)) := if l1 < 0 then (some (jc_cost K 1 6, .inr 2)) else (if l1 < 24 then (if jc_i K 2 8 = 0 then ((fc8 K l1).bind fun x4 => if x4.2 = 0 then (some (x4.1, .inl (0))) else ((fc9 (x4.1) l1).bind fun x7 => if x7.2 = 0 then ((fc140 (x7.1) (-4)).bind fun x10 => some (x10.1, .inl (x10.2))) else ((fc140 (x7.1) 1).bind fun x12 => some (x12.1, .inl (x12.2))))) else (some (jc_cost K 1 6, .inr 1))) else (some (jc_cost K 1 6, .inr 2)))
theorem jd116 {d : Nat} {σ0 : ib_H} {Q : ib_O → Prop} {K : jc_K} {l1 : Int} (hl1 : jb_r l1) {r : (jc_K × (Int ⊕ Nat))} (h : fc116 K l1 = some r) (k : ∀ σ, jc_S σ0 r.1 σ → (∀ v, r.2 = .inl v → jb_r v) → jc_E false r.2 σ Q) : jc_W σ0 K (d + 7) 116 0 [some (.ref 2), some (jb_v l1)] [] Q := by
  intro σ s
  unfold fc116 at h
  refine jiL1 (p := 1) rfl jM116 jq116_0 ?_
  refine jw_callS [(jb_v l1)] jM116 jq116_1 rfl rfl rfl jM136 rfl rfl ?_
  show jb_w (d + 6) 136 0 [some (jb_v l1)] [] σ (jb_k (d + 7) 116 1 [some (.ref 2), some (jb_v l1)] [] Q)
  refine jiL0 (p := 1) rfl jM136 jq136_0 ?_
  refine jw_if (p := 4) rfl jM136 jq136_1 (jc_lt hl1 jb_r0) (fun c1 => ?_) (fun c1 => ?_)
  · have h1 := jo_p c1 h
    cases h1
    exact jb_throw (k := 2) jM136 jq136_10 rfl (Nat.le_add_left_of_le (by decide)) (k _ (s.cost 1 6) (fun _ z => by cases z))
  · have h1 := jo_n c1 h
    refine jiL0 (p := 5) rfl jM136 jq136_4 ?_
    refine jw_bipush (p := 7) rfl jM136 jq136_5 (by decide) ?_
    refine jw_ic (p := 10) rfl jM136 jq136_7 (jc_lt hl1 (jb_rn rfl)) (fun c2 => ?_) (fun c2 => ?_)
    · have h2 := jo_p c2 h1
      refine jw_vret jM136 jq136_21 ?_
      show jb_w (d + 7) 116 4 [some (.ref 2), some (jb_v l1)] [] σ Q
      refine jaL0 (p := 5) rfl jM116 jq116_4 ?_
      refine jw_callV [] jM116 jq116_5 rfl rfl (jo_2 s.1) rfl jM137 rfl rfl ?_
      show jb_w (d + 6) 137 0 [some (.ref 2)] [] σ (jb_k (d + 7) 116 5 [some (.ref 2), some (jb_v l1)] [] Q)
      refine jaL0 (p := 1) rfl jM137 jq137_0 ?_
      refine jc_getI (p := 4) (i := 8) rfl jM137 jq137_1 rfl (jo_2 s.1) jn_10_8 s (by decide) (by decide) rfl ?_
      refine jw_if (p := 7) rfl jM137 jq137_4 (jc_eq (s.r _ _) jb_r0) (fun c3 => ?_) (fun c3 => ?_)
      · have h3 := jo_p c3 h2
        refine jw_vret jM137 jq137_18 ?_
        show jb_w (d + 7) 116 8 [some (.ref 2), some (jb_v l1)] [] σ Q
        refine jaL0 (p := 9) rfl jM116 jq116_8 ?_
        refine jw_getP (p := 12) (i := 3) (q := 66) rfl jM116 jq116_9 rfl (jo_2 s.1) je_10_3 (jp_2_3 s.1) ?_
        refine jiL1 (p := 13) rfl jM116 jq116_12 ?_
        refine jw_callV [(jb_v l1)] jM116 jq116_13 rfl rfl (jo_66 s.1) rfl jM8 rfl rfl ?_
        obtain ⟨x4, b5, h5⟩ := jo_b h3
        refine jd8 hl1 b5 (fun σ4 s4 r4 => ?_) σ s
        show jb_w (d + 7) 116 16 [some (.ref 2), some (jb_v l1)] [(jb_v (x4.2))] σ4 Q
        refine jw_if (p := 19) rfl jM116 jq116_16 (jc_ne r4 jb_r0) (fun c6 => ?_) (fun c6 => ?_)
        · have h6 := jo_n c6 h5
          refine jaL0 (p := 22) rfl jM116 jq116_21 ?_
          refine jaL0 (p := 23) rfl jM116 jq116_22 ?_
          refine jw_getP (p := 26) (i := 3) (q := 66) rfl jM116 jq116_23 rfl (jo_2 s4.1) je_10_3 (jp_2_3 s4.1) ?_
          refine jiL1 (p := 27) rfl jM116 jq116_26 ?_
          refine jw_callV [(jb_v l1)] jM116 jq116_27 rfl rfl (jo_66 s4.1) rfl jM9 rfl rfl ?_
          obtain ⟨x7, b8, h8⟩ := jo_b h6
          refine jd9 hl1 b8 (fun σ7 s7 r7 => ?_) σ4 s4
          show jb_w (d + 7) 116 30 [some (.ref 2), some (jb_v l1)] [(jb_v (x7.2)), (.ref 2)] σ7 Q
          refine jw_if (p := 33) rfl jM116 jq116_30 (jc_eq r7 jb_r0) (fun c9 => ?_) (fun c9 => ?_)
          · have h9 := jo_p c9 h8
            refine jw_bipush (p := 39) rfl jM116 jq116_37 (by decide) ?_
            refine jw_callV [(jb_v (-4))] jM116 jq116_39 rfl rfl (jo_2 s7.1) rfl jM140 rfl rfl ?_
            obtain ⟨x10, b11, h11⟩ := jo_b h9
            refine jd140 (jb_rn rfl) b11 (fun σ10 s10 r10 => ?_) σ7 s7
            show jb_w (d + 7) 116 42 [some (.ref 2), some (jb_v l1)] [(jb_v (x10.2))] σ10 Q
            cases h11
            exact jw_iret jM116 jq116_42 (fun z => absurd z (by decide)) (k σ10 s10 (fun _ z => by cases z; exact r10))
          · have h9 := jo_n c9 h8
            refine jw_iconst (p := 34) rfl jM116 jq116_33 ?_
            refine jw_goto jM116 jq116_34 ?_
            refine jw_callV [(jb_v 1)] jM116 jq116_39 rfl rfl (jo_2 s7.1) rfl jM140 rfl rfl ?_
            obtain ⟨x12, b13, h13⟩ := jo_b h9
            refine jd140 (jb_rn rfl) b13 (fun σ12 s12 r12 => ?_) σ7 s7
            show jb_w (d + 7) 116 42 [some (.ref 2), some (jb_v l1)] [(jb_v (x12.2))] σ12 Q
            cases h13
            exact jw_iret jM116 jq116_42 (fun z => absurd z (by decide)) (k σ12 s12 (fun _ z => by cases z; exact r12))
        · have h6 := jo_p (Decidable.byContradiction c6) h5
          refine jw_iconst (p := 20) rfl jM116 jq116_19 ?_
          cases h6
          exact jw_iret jM116 jq116_20 (fun z => absurd z (by decide)) (k σ4 s4 (fun _ z => by cases z; exact (jb_rn rfl)))
      · have h3 := jo_n c3 h2
        cases h3
        exact jb_throw (k := 1) jM137 jq137_7 rfl (Nat.le_add_left_of_le (by decide)) (k _ (s.cost 1 6) (fun _ z => by cases z))
    · have h2 := jo_n c2 h1
      cases h2
      exact jb_throw (k := 2) jM136 jq136_10 rfl (Nat.le_add_left_of_le (by decide)) (k _ (s.cost 1 6) (fun _ z => by cases z))
-- 117 PageLoom.crashAt need 6
def fc117 (K : jc_K) (l1 : Int) : Option (jc_K × (Int ⊕ Nat)) := if l1 < 0 then (some (jc_cost K 1 6, .inr 0)) else (if l1 ≤ 999 then (some (jc_ui K 3 10 l1, .inl 0)) else (some (jc_cost K 1 6, .inr 0)))
theorem jd117 {d : Nat} {σ0 : ib_H} {Q : ib_O → Prop} {K : jc_K} {l1 : Int} (hl1 : jb_r l1) {r : (jc_K × (Int ⊕ Nat))} (h : fc117 K l1 = some r) (k : ∀ σ, jc_S σ0 r.1 σ → (∀ v, r.2 = .inl v → jb_r v) → jc_E true r.2 σ Q) : jc_W σ0 K (d + 6) 117 0 [some (.ref 2), some (jb_v l1)] [] Q := by
  intro σ s
  unfold fc117 at h
  refine jiL1 (p := 1) rfl jM117 jq117_0 ?_
  refine jw_if (p := 4) rfl jM117 jq117_1 (jc_lt hl1 jb_r0) (fun c1 => ?_) (fun c1 => ?_)
  · have h1 := jo_p c1 h
    cases h1
    exact jb_throw (k := 0) jM117 jq117_11 rfl (Nat.le_add_left_of_le (by decide)) (k _ (s.cost 1 6) (fun _ z => by cases z))
  · have h1 := jo_n c1 h
    refine jiL1 (p := 5) rfl jM117 jq117_4 ?_
    refine jw_sipush (p := 8) rfl jM117 jq117_5 (by decide) ?_
    refine jw_ic (p := 11) rfl jM117 jq117_8 (jc_le hl1 (jb_rn rfl)) (fun c2 => ?_) (fun c2 => ?_)
    · have h2 := jo_p c2 h1
      refine jaL0 (p := 22) rfl jM117 jq117_21 ?_
      refine jw_getP (p := 25) (i := 0) (q := 3) rfl jM117 jq117_22 rfl (jo_2 s.1) je_10_0 (jp_2_0 s.1) ?_
      refine jiL1 (p := 26) rfl jM117 jq117_25 ?_
      refine jc_putI (p := 29) (i := 10) rfl jM117 jq117_26 rfl (jo_3 s.1) (Or.inl jz_1_10) s (by decide) (by decide) hl1 ?_
      intro σ3 s3
      cases h2
      exact jw_vret jM117 jq117_29 (k σ3 s3 (fun _ z => by cases z; exact jb_r0))
    · have h2 := jo_n c2 h1
      cases h2
      exact jb_throw (k := 0) jM117 jq117_11 rfl (Nat.le_add_left_of_le (by decide)) (k _ (s.cost 1 6) (fun _ z => by cases z))
-- 118 PageLoom.crash need 3
def fc118 (K : jc_K) : Option (jc_K × Int) := if jc_i K 2 8 = 0 then ((fc141 K ).bind fun x2 => some (x2.1, 0)) else (some (K, 0))
theorem jd118 {d : Nat} {σ0 : ib_H} {Q : ib_O → Prop} {K : jc_K} {r : (jc_K × Int)} (h : fc118 K  = some r) (k : ∀ σ, jc_S σ0 r.1 σ → Q (.inl none, σ)) : jc_W σ0 K (d + 3) 118 0 [some (.ref 2)] [] Q := by
  intro σ s
  unfold fc118 at h
  refine jaL0 (p := 1) rfl jM118 jq118_0 ?_
  refine jc_getI (p := 4) (i := 8) rfl jM118 jq118_1 rfl (jo_2 s.1) jn_10_8 s (by decide) (by decide) rfl ?_
  refine jw_if (p := 7) rfl jM118 jq118_4 (jc_ne (s.r _ _) jb_r0) (fun c1 => ?_) (fun c1 => ?_)
  · have h1 := jo_n c1 h
    cases h1
    exact jw_vret jM118 jq118_11 (k σ s)
  · have h1 := jo_p (Decidable.byContradiction c1) h
    refine jaL0 (p := 8) rfl jM118 jq118_7 ?_
    refine jw_callV [] jM118 jq118_8 rfl rfl (jo_2 s.1) rfl jM141 rfl rfl ?_
    obtain ⟨x2, b3, h3⟩ := jo_b h1
    refine jd141  b3 (fun σ2 s2 => ?_) σ s
    show jb_w (d + 3) 118 11 [some (.ref 2)] [] σ2 Q
    cases h3
    exact jw_vret jM118 jq118_11 (k σ2 s2)
-- 119 PageLoom.recover need 6
def fc119 (K : jc_K) : Option (jc_K × (Int ⊕ Nat)) := if jc_i K 2 8 = 0 then (some (jc_cost K 1 6, .inr 1)) else ((fc51 K ).bind fun x2 => (fc52 (x2.1) ).bind fun x4 => if x4.2 = 0 then ((fc140 (x4.1) (-4)).bind fun x30 => some (x30.1, .inl (x30.2))) else ((fc53 (x4.1) ).bind fun x7 => (fc57 (x7.1) ).bind fun x9 => if x9.2 = 0 then ((fc140 (x9.1) (-4)).bind fun x12 => some (x12.1, .inl (x12.2))) else ((fc60 (x9.1) ).bind fun x14 => if x14.2 = 0 then ((fc140 (x14.1) (-4)).bind fun x28 => some (x28.1, .inl (x28.2))) else ((fc91 (x14.1) ).bind fun x17 => (fc92 (x17.1) 0 1).bind fun x19 => if x19.2 = 0 then ((fc140 (jc_ui (x19.1) 85 2 (jc_i (x19.1) 81 4)) (-4)).bind fun x26 => some (x26.1, .inl (x26.2))) else ((fc64 (jc_ui (x19.1) 85 2 (jc_i (x19.1) 81 4)) ).bind fun x23 => some (jc_ui (x23.1) 2 8 0, .inl (0)))))))
theorem jd119 {d : Nat} {σ0 : ib_H} {Q : ib_O → Prop} {K : jc_K} {r : (jc_K × (Int ⊕ Nat))} (h : fc119 K  = some r) (k : ∀ σ, jc_S σ0 r.1 σ → (∀ v, r.2 = .inl v → jb_r v) → jc_E false r.2 σ Q) : jc_W σ0 K (d + 6) 119 0 [some (.ref 2), none] [] Q := by
  intro σ s
  unfold fc119 at h
  refine jaL0 (p := 1) rfl jM119 jq119_0 ?_
  refine jc_getI (p := 4) (i := 8) rfl jM119 jq119_1 rfl (jo_2 s.1) jn_10_8 s (by decide) (by decide) rfl ?_
  refine jw_if (p := 7) rfl jM119 jq119_4 (jc_ne (s.r _ _) jb_r0) (fun c1 => ?_) (fun c1 => ?_)
  · have h1 := jo_n c1 h
    refine jaL0 (p := 18) rfl jM119 jq119_17 ?_
    refine jw_getP (p := 21) (i := 6) (q := 83) rfl jM119 jq119_18 rfl (jo_2 s.1) je_10_6 (jp_2_6 s.1) ?_
    refine jw_callV [] jM119 jq119_21 rfl rfl (jo_83 s.1) rfl jM51 rfl rfl ?_
    obtain ⟨x2, b3, h3⟩ := jo_b h1
    refine jd51  b3 (fun σ2 s2 => ?_) σ s
    show jb_w (d + 6) 119 24 [some (.ref 2), none] [] σ2 Q
    refine jaL0 (p := 25) rfl jM119 jq119_24 ?_
    refine jw_getP (p := 28) (i := 6) (q := 83) rfl jM119 jq119_25 rfl (jo_2 s2.1) je_10_6 (jp_2_6 s2.1) ?_
    refine jw_callV [] jM119 jq119_28 rfl rfl (jo_83 s2.1) rfl jM52 rfl rfl ?_
    obtain ⟨x4, b5, h5⟩ := jo_b h3
    refine jd52  b5 (fun σ4 s4 r4 => ?_) σ2 s2
    show jb_w (d + 6) 119 31 [some (.ref 2), none] [(jb_v (x4.2))] σ4 Q
    refine jw_if (p := 34) rfl jM119 jq119_31 (jc_ne r4 jb_r0) (fun c6 => ?_) (fun c6 => ?_)
    · have h6 := jo_n c6 h5
      refine jaL0 (p := 42) rfl jM119 jq119_41 ?_
      refine jw_getP (p := 45) (i := 6) (q := 83) rfl jM119 jq119_42 rfl (jo_2 s4.1) je_10_6 (jp_2_6 s4.1) ?_
      refine jw_callV [] jM119 jq119_45 rfl rfl (jo_83 s4.1) rfl jM53 rfl rfl ?_
      obtain ⟨x7, b8, h8⟩ := jo_b h6
      refine jd53  b8 (fun σ7 s7 => ?_) σ4 s4
      show jb_w (d + 6) 119 48 [some (.ref 2), none] [] σ7 Q
      refine jaL0 (p := 49) rfl jM119 jq119_48 ?_
      refine jw_getP (p := 52) (i := 6) (q := 83) rfl jM119 jq119_49 rfl (jo_2 s7.1) je_10_6 (jp_2_6 s7.1) ?_
      refine jw_callV [] jM119 jq119_52 rfl rfl (jo_83 s7.1) rfl jM57 rfl rfl ?_
      obtain ⟨x9, b10, h10⟩ := jo_b h8
      refine jd57  b10 (fun σ9 s9 r9 => ?_) σ7 s7
      show jb_w (d + 6) 119 55 [some (.ref 2), none] [(jb_v (x9.2))] σ9 Q
      refine jw_if (p := 58) rfl jM119 jq119_55 (jc_eq r9 jb_r0) (fun c11 => ?_) (fun c11 => ?_)
      · have h11 := jo_p c11 h10
        refine jaL0 (p := 69) rfl jM119 jq119_68 ?_
        refine jw_bipush (p := 71) rfl jM119 jq119_69 (by decide) ?_
        refine jw_callV [(jb_v (-4))] jM119 jq119_71 rfl rfl (jo_2 s9.1) rfl jM140 rfl rfl ?_
        obtain ⟨x12, b13, h13⟩ := jo_b h11
        refine jd140 (jb_rn rfl) b13 (fun σ12 s12 r12 => ?_) σ9 s9
        show jb_w (d + 6) 119 74 [some (.ref 2), none] [(jb_v (x12.2))] σ12 Q
        cases h13
        exact jw_iret jM119 jq119_74 (fun z => absurd z (by decide)) (k σ12 s12 (fun _ z => by cases z; exact r12))
      · have h11 := jo_n c11 h10
        refine jaL0 (p := 59) rfl jM119 jq119_58 ?_
        refine jw_getP (p := 62) (i := 6) (q := 83) rfl jM119 jq119_59 rfl (jo_2 s9.1) je_10_6 (jp_2_6 s9.1) ?_
        refine jw_callV [] jM119 jq119_62 rfl rfl (jo_83 s9.1) rfl jM60 rfl rfl ?_
        obtain ⟨x14, b15, h15⟩ := jo_b h11
        refine jd60  b15 (fun σ14 s14 r14 => ?_) σ9 s9
        show jb_w (d + 6) 119 65 [some (.ref 2), none] [(jb_v (x14.2))] σ14 Q
        refine jw_if (p := 68) rfl jM119 jq119_65 (jc_ne r14 jb_r0) (fun c16 => ?_) (fun c16 => ?_)
        · have h16 := jo_n c16 h15
          refine jaL0 (p := 76) rfl jM119 jq119_75 ?_
          refine jw_getP (p := 79) (i := 5) (q := 81) rfl jM119 jq119_76 rfl (jo_2 s14.1) je_10_5 (jp_2_5 s14.1) ?_
          refine jw_callV [] jM119 jq119_79 rfl rfl (jo_81 s14.1) rfl jM91 rfl rfl ?_
          obtain ⟨x17, b18, h18⟩ := jo_b h16
          refine jd91  b18 (fun σ17 s17 => ?_) σ14 s14
          show jb_w (d + 6) 119 82 [some (.ref 2), none] [] σ17 Q
          refine jaL0 (p := 83) rfl jM119 jq119_82 ?_
          refine jw_getP (p := 86) (i := 5) (q := 81) rfl jM119 jq119_83 rfl (jo_2 s17.1) je_10_5 (jp_2_5 s17.1) ?_
          refine jw_iconst (p := 87) rfl jM119 jq119_86 ?_
          refine jw_iconst (p := 88) rfl jM119 jq119_87 ?_
          refine jw_callV [(jb_v 0), (jb_v 1)] jM119 jq119_88 rfl rfl (jo_81 s17.1) rfl jM92 rfl rfl ?_
          obtain ⟨x19, b20, h20⟩ := jo_b h18
          refine jd92 (jb_rn rfl) (jb_rn rfl) b20 (fun σ19 s19 r19 => ?_) σ17 s17
          show jb_w (d + 6) 119 91 [some (.ref 2), none] [(jb_v (x19.2))] σ19 Q
          refine jiS1 (p := 92) rfl jM119 jq119_91 ?_
          refine jaL0 (p := 93) rfl jM119 jq119_92 ?_
          refine jw_getP (p := 96) (i := 6) (q := 83) rfl jM119 jq119_93 rfl (jo_2 s19.1) je_10_6 (jp_2_6 s19.1) ?_
          refine jw_getP (p := 99) (i := 6) (q := 85) rfl jM119 jq119_96 rfl (jo_83 s19.1) je_5_6 (jp_83_6 s19.1) ?_
          refine jw_iconst (p := 100) rfl jM119 jq119_99 ?_
          refine jaL0 (p := 101) rfl jM119 jq119_100 ?_
          refine jw_getP (p := 104) (i := 5) (q := 81) rfl jM119 jq119_101 rfl (jo_2 s19.1) je_10_5 (jp_2_5 s19.1) ?_
          refine jc_getI (p := 107) (i := 4) rfl jM119 jq119_104 rfl (jo_81 s19.1) jn_8_4 s19 (by decide) (by decide) rfl ?_
          refine jc_iast (p := 108) rfl jM119 jq119_107 (ja_85 s19.1) (by decide) (by decide) s19 (by decide) (s19.r _ _) ?_
          intro σ21 s21
          refine jiL1 (p := 109) rfl jM119 jq119_108 ?_
          refine jw_if (p := 112) rfl jM119 jq119_109 (jc_ne r19 jb_r0) (fun c22 => ?_) (fun c22 => ?_)
          · have h22 := jo_n c22 h20
            refine jaL0 (p := 120) rfl jM119 jq119_119 ?_
            refine jw_getP (p := 123) (i := 1) (q := 57) rfl jM119 jq119_120 rfl (jo_2 s21.1) je_10_1 (jp_2_1 s21.1) ?_
            refine jw_callV [] jM119 jq119_123 rfl rfl (jo_57 s21.1) rfl jM64 rfl rfl ?_
            obtain ⟨x23, b24, h24⟩ := jo_b h22
            refine jd64  b24 (fun σ23 s23 => ?_) σ21 s21
            show jb_w (d + 6) 119 126 [some (.ref 2), some (jb_v (x19.2))] [] σ23 Q
            refine jaL0 (p := 127) rfl jM119 jq119_126 ?_
            refine jw_iconst (p := 128) rfl jM119 jq119_127 ?_
            refine jc_putI (p := 131) (i := 8) rfl jM119 jq119_128 rfl (jo_2 s23.1) (Or.inr ⟨jy_10_8, Or.inl rfl⟩) s23 (by decide) (by decide) (jb_rn rfl) ?_
            intro σ25 s25
            refine jw_iconst (p := 132) rfl jM119 jq119_131 ?_
            cases h24
            exact jw_iret jM119 jq119_132 (fun z => absurd z (by decide)) (k σ25 s25 (fun _ z => by cases z; exact (jb_rn rfl)))
          · have h22 := jo_p (Decidable.byContradiction c22) h20
            refine jaL0 (p := 113) rfl jM119 jq119_112 ?_
            refine jw_bipush (p := 115) rfl jM119 jq119_113 (by decide) ?_
            refine jw_callV [(jb_v (-4))] jM119 jq119_115 rfl rfl (jo_2 s21.1) rfl jM140 rfl rfl ?_
            obtain ⟨x26, b27, h27⟩ := jo_b h22
            refine jd140 (jb_rn rfl) b27 (fun σ26 s26 r26 => ?_) σ21 s21
            show jb_w (d + 6) 119 118 [some (.ref 2), some (jb_v (x19.2))] [(jb_v (x26.2))] σ26 Q
            cases h27
            exact jw_iret jM119 jq119_118 (fun z => absurd z (by decide)) (k σ26 s26 (fun _ z => by cases z; exact r26))
        · have h16 := jo_p (Decidable.byContradiction c16) h15
          refine jaL0 (p := 69) rfl jM119 jq119_68 ?_
          refine jw_bipush (p := 71) rfl jM119 jq119_69 (by decide) ?_
          refine jw_callV [(jb_v (-4))] jM119 jq119_71 rfl rfl (jo_2 s14.1) rfl jM140 rfl rfl ?_
          obtain ⟨x28, b29, h29⟩ := jo_b h16
          refine jd140 (jb_rn rfl) b29 (fun σ28 s28 r28 => ?_) σ14 s14
          show jb_w (d + 6) 119 74 [some (.ref 2), none] [(jb_v (x28.2))] σ28 Q
          cases h29
          exact jw_iret jM119 jq119_74 (fun z => absurd z (by decide)) (k σ28 s28 (fun _ z => by cases z; exact r28))
    · have h6 := jo_p (Decidable.byContradiction c6) h5
      refine jaL0 (p := 35) rfl jM119 jq119_34 ?_
      refine jw_bipush (p := 37) rfl jM119 jq119_35 (by decide) ?_
      refine jw_callV [(jb_v (-4))] jM119 jq119_37 rfl rfl (jo_2 s4.1) rfl jM140 rfl rfl ?_
      obtain ⟨x30, b31, h31⟩ := jo_b h6
      refine jd140 (jb_rn rfl) b31 (fun σ30 s30 r30 => ?_) σ4 s4
      show jb_w (d + 6) 119 40 [some (.ref 2), none] [(jb_v (x30.2))] σ30 Q
      cases h31
      exact jw_iret jM119 jq119_40 (fun z => absurd z (by decide)) (k σ30 s30 (fun _ z => by cases z; exact r30))
  · have h1 := jo_p (Decidable.byContradiction c1) h
    cases h1
    exact jb_throw (k := 1) jM119 jq119_7 rfl (Nat.le_add_left_of_le (by decide)) (k _ (s.cost 1 6) (fun _ z => by cases z))
-- 120 PageLoom.records need 0
def fc120 (K : jc_K) : Option (jc_K × Int) := some (K, jc_i K 63 4)
theorem jd120 {d : Nat} {σ0 : ib_H} {Q : ib_O → Prop} {K : jc_K} {r : (jc_K × Int)} (h : fc120 K  = some r) (k : ∀ σ, jc_S σ0 r.1 σ → jb_r r.2 → Q (.inl (some (jb_v r.2)), σ)) : jc_W σ0 K d 120 0 [some (.ref 2)] [] Q := by
  intro σ s
  unfold fc120 at h
  refine jaL0 (p := 1) rfl jM120 jq120_0 ?_
  refine jw_getP (p := 4) (i := 2) (q := 63) rfl jM120 jq120_1 rfl (jo_2 s.1) je_10_2 (jp_2_2 s.1) ?_
  refine jc_getI (p := 7) (i := 4) rfl jM120 jq120_4 rfl (jo_63 s.1) jn_2_4 s (by decide) (by decide) rfl ?_
  cases h
  exact jw_iret jM120 jq120_7 (fun z => absurd z (by decide)) (k σ s (s.r _ _))
-- 121 PageLoom.page need 7
def fc121 (K : jc_K) (l1 : Int) (l2 : Int) : Option (jc_K × (Int ⊕ Nat)) := if l1 < 0 then (some (jc_cost K 1 6, .inr 2)) else (if l1 < 24 then (if l2 < 0 then (some (jc_cost K 1 6, .inr 0)) else (if l2 ≤ 3 then (if l2 = 3 then ((fc2 K l1).bind fun x14 => if x14.2 = (-1) then (some (x14.1, .inl (0))) else (some (x14.1, .inl (1)))) else ((fc3 K l1).bind fun x6 => if x6.2 = 0 then (some (x6.1, .inl ((-1)))) else (if l2 = 0 then (if jc_pg (x6.1) (x6.2) then some (x6.1, .inl (jc_i (x6.1) (x6.2) 0)) else none) else (if l2 = 1 then (if jc_pg (x6.1) (x6.2) then some (x6.1, .inl (jc_i (x6.1) (x6.2) 1)) else none) else (if jc_pg (x6.1) (x6.2) then some (x6.1, .inl (jc_i (x6.1) (x6.2) 2)) else none))))) else (some (jc_cost K 1 6, .inr 0)))) else (some (jc_cost K 1 6, .inr 2)))
theorem jd121 {d : Nat} {σ0 : ib_H} {Q : ib_O → Prop} {K : jc_K} {l1 : Int} {l2 : Int} (hl1 : jb_r l1) (hl2 : jb_r l2) {r : (jc_K × (Int ⊕ Nat))} (h : fc121 K l1 l2 = some r) (k : ∀ σ, jc_S σ0 r.1 σ → (∀ v, r.2 = .inl v → jb_r v) → jc_E false r.2 σ Q) : jc_W σ0 K (d + 7) 121 0 [some (.ref 2), some (jb_v l1), some (jb_v l2), none] [] Q := by
  intro σ s
  unfold fc121 at h
  refine jiL1 (p := 1) rfl jM121 jq121_0 ?_
  refine jw_callS [(jb_v l1)] jM121 jq121_1 rfl rfl rfl jM136 rfl rfl ?_
  show jb_w (d + 6) 136 0 [some (jb_v l1)] [] σ (jb_k (d + 7) 121 1 [some (.ref 2), some (jb_v l1), some (jb_v l2), none] [] Q)
  refine jiL0 (p := 1) rfl jM136 jq136_0 ?_
  refine jw_if (p := 4) rfl jM136 jq136_1 (jc_lt hl1 jb_r0) (fun c1 => ?_) (fun c1 => ?_)
  · have h1 := jo_p c1 h
    cases h1
    exact jb_throw (k := 2) jM136 jq136_10 rfl (Nat.le_add_left_of_le (by decide)) (k _ (s.cost 1 6) (fun _ z => by cases z))
  · have h1 := jo_n c1 h
    refine jiL0 (p := 5) rfl jM136 jq136_4 ?_
    refine jw_bipush (p := 7) rfl jM136 jq136_5 (by decide) ?_
    refine jw_ic (p := 10) rfl jM136 jq136_7 (jc_lt hl1 (jb_rn rfl)) (fun c2 => ?_) (fun c2 => ?_)
    · have h2 := jo_p c2 h1
      refine jw_vret jM136 jq136_21 ?_
      show jb_w (d + 7) 121 4 [some (.ref 2), some (jb_v l1), some (jb_v l2), none] [] σ Q
      refine jiL2 (p := 5) rfl jM121 jq121_4 ?_
      refine jw_if (p := 8) rfl jM121 jq121_5 (jc_lt hl2 jb_r0) (fun c3 => ?_) (fun c3 => ?_)
      · have h3 := jo_p c3 h2
        cases h3
        exact jb_throw (k := 0) jM121 jq121_13 rfl (Nat.le_add_left_of_le (by decide)) (k _ (s.cost 1 6) (fun _ z => by cases z))
      · have h3 := jo_n c3 h2
        refine jiL2 (p := 9) rfl jM121 jq121_8 ?_
        refine jw_iconst (p := 10) rfl jM121 jq121_9 ?_
        refine jw_ic (p := 13) rfl jM121 jq121_10 (jc_le hl2 (jb_rn rfl)) (fun c4 => ?_) (fun c4 => ?_)
        · have h4 := jo_p c4 h3
          refine jiL2 (p := 24) rfl jM121 jq121_23 ?_
          refine jw_iconst (p := 25) rfl jM121 jq121_24 ?_
          refine jw_ic (p := 28) rfl jM121 jq121_25 (jc_ne hl2 (jb_rn rfl)) (fun c5 => ?_) (fun c5 => ?_)
          · have h5 := jo_n c5 h4
            refine jaL0 (p := 47) rfl jM121 jq121_46 ?_
            refine jw_getP (p := 50) (i := 3) (q := 66) rfl jM121 jq121_47 rfl (jo_2 s.1) je_10_3 (jp_2_3 s.1) ?_
            refine jiL1 (p := 51) rfl jM121 jq121_50 ?_
            refine jw_callV [(jb_v l1)] jM121 jq121_51 rfl rfl (jo_66 s.1) rfl jM3 rfl rfl ?_
            obtain ⟨x6, b7, h7⟩ := jo_b h5
            refine jd3 hl1 b7 (fun σ6 s6 => ?_) σ s
            show jb_w (d + 7) 121 54 [some (.ref 2), some (jb_v l1), some (jb_v l2), none] [(.ref (x6.2))] σ6 Q
            refine jaS3 (p := 55) rfl jM121 jq121_54 ?_
            refine jaL3 (p := 56) rfl jM121 jq121_55 ?_
            refine jw_ifnonnull (p := 59) rfl jM121 jq121_56 (fun c8 => ?_) (fun c8 => ?_)
            · have h8 := jo_n c8 h7
              refine jiL2 (p := 62) rfl jM121 jq121_61 ?_
              refine jw_if (p := 65) rfl jM121 jq121_62 (jc_ne hl2 jb_r0) (fun c9 => ?_) (fun c9 => ?_)
              · have h9 := jo_n c9 h8
                refine jiL2 (p := 71) rfl jM121 jq121_70 ?_
                refine jw_iconst (p := 72) rfl jM121 jq121_71 ?_
                refine jw_ic (p := 75) rfl jM121 jq121_72 (jc_ne hl2 (jb_rn rfl)) (fun c10 => ?_) (fun c10 => ?_)
                · have h10 := jo_n c10 h9
                  refine jaL3 (p := 83) rfl jM121 jq121_82 ?_
                  obtain ⟨c11, h11⟩ := jo_i h10
                  refine jc_getI (p := 86) (i := 2) rfl jM121 jq121_83 rfl (s6.pg c11).ob jn_4_2 s6 (jc_pgd c11) (by decide) rfl ?_
                  cases h11
                  exact jw_iret jM121 jq121_86 (fun z => absurd z (by decide)) (k σ6 s6 (fun _ z => by cases z; exact (s6.r _ _)))
                · have h10 := jo_p (Decidable.byContradiction c10) h9
                  refine jaL3 (p := 76) rfl jM121 jq121_75 ?_
                  obtain ⟨c12, h12⟩ := jo_i h10
                  refine jc_getI (p := 79) (i := 1) rfl jM121 jq121_76 rfl (s6.pg c12).ob jn_4_1 s6 (jc_pgd c12) (by decide) rfl ?_
                  refine jw_goto jM121 jq121_79 ?_
                  cases h12
                  exact jw_iret jM121 jq121_86 (fun z => absurd z (by decide)) (k σ6 s6 (fun _ z => by cases z; exact (s6.r _ _)))
              · have h9 := jo_p (Decidable.byContradiction c9) h8
                refine jaL3 (p := 66) rfl jM121 jq121_65 ?_
                obtain ⟨c13, h13⟩ := jo_i h9
                refine jc_getI (p := 69) (i := 0) rfl jM121 jq121_66 rfl (s6.pg c13).ob jn_4_0 s6 (jc_pgd c13) (by decide) rfl ?_
                cases h13
                exact jw_iret jM121 jq121_69 (fun z => absurd z (by decide)) (k σ6 s6 (fun _ z => by cases z; exact (s6.r _ _)))
            · have h8 := jo_p c8 h7
              refine jw_iconst (p := 60) rfl jM121 jq121_59 ?_
              cases h8
              exact jw_iret jM121 jq121_60 (fun z => absurd z (by decide)) (k σ6 s6 (fun _ z => by cases z; exact (jb_rn rfl)))
          · have h5 := jo_p (Decidable.byContradiction c5) h4
            refine jaL0 (p := 29) rfl jM121 jq121_28 ?_
            refine jw_getP (p := 32) (i := 3) (q := 66) rfl jM121 jq121_29 rfl (jo_2 s.1) je_10_3 (jp_2_3 s.1) ?_
            refine jiL1 (p := 33) rfl jM121 jq121_32 ?_
            refine jw_callV [(jb_v l1)] jM121 jq121_33 rfl rfl (jo_66 s.1) rfl jM2 rfl rfl ?_
            obtain ⟨x14, b15, h15⟩ := jo_b h5
            refine jd2 hl1 b15 (fun σ14 s14 r14 => ?_) σ s
            show jb_w (d + 7) 121 36 [some (.ref 2), some (jb_v l1), some (jb_v l2), none] [(jb_v (x14.2))] σ14 Q
            refine jw_iconst (p := 37) rfl jM121 jq121_36 ?_
            refine jw_ic (p := 40) rfl jM121 jq121_37 (jc_ne r14 (jb_rn rfl)) (fun c16 => ?_) (fun c16 => ?_)
            · have h16 := jo_n c16 h15
              refine jw_iconst (p := 45) rfl jM121 jq121_44 ?_
              cases h16
              exact jw_iret jM121 jq121_45 (fun z => absurd z (by decide)) (k σ14 s14 (fun _ z => by cases z; exact (jb_rn rfl)))
            · have h16 := jo_p (Decidable.byContradiction c16) h15
              refine jw_iconst (p := 41) rfl jM121 jq121_40 ?_
              refine jw_goto jM121 jq121_41 ?_
              cases h16
              exact jw_iret jM121 jq121_45 (fun z => absurd z (by decide)) (k σ14 s14 (fun _ z => by cases z; exact (jb_rn rfl)))
        · have h4 := jo_n c4 h3
          cases h4
          exact jb_throw (k := 0) jM121 jq121_13 rfl (Nat.le_add_left_of_le (by decide)) (k _ (s.cost 1 6) (fun _ z => by cases z))
    · have h2 := jo_n c2 h1
      cases h2
      exact jb_throw (k := 2) jM136 jq136_10 rfl (Nat.le_add_left_of_le (by decide)) (k _ (s.cost 1 6) (fun _ z => by cases z))
-- 122 PageLoom.entry need 7
def fc122 (K : jc_K) (l1 : Int) (l2 : Int) : Option (jc_K × (Int ⊕ Nat)) := if l1 < 0 then (some (jc_cost K 1 6, .inr 2)) else (if l1 < 24 then (if 0 ≤ l2 then ((fc3 K l1).bind fun x4 => if x4.2 = 0 then (some (x4.1, .inl ((-1)))) else (if jc_pg (x4.1) (x4.2) then if l2 < jc_i (x4.1) (x4.2) 2 then ((fc37 (x4.1) (x4.2) l2).bind fun x9 => some (x9.1, .inl (x9.2))) else (some (x4.1, .inl ((-1)))) else none)) else (some (jc_cost K 1 6, .inr 2))) else (some (jc_cost K 1 6, .inr 2)))
theorem jd122 {d : Nat} {σ0 : ib_H} {Q : ib_O → Prop} {K : jc_K} {l1 : Int} {l2 : Int} (hl1 : jb_r l1) (hl2 : jb_r l2) {r : (jc_K × (Int ⊕ Nat))} (h : fc122 K l1 l2 = some r) (k : ∀ σ, jc_S σ0 r.1 σ → (∀ v, r.2 = .inl v → jb_r v) → jc_E false r.2 σ Q) : jc_W σ0 K (d + 7) 122 0 [some (.ref 2), some (jb_v l1), some (jb_v l2), none] [] Q := by
  intro σ s
  unfold fc122 at h
  refine jiL1 (p := 1) rfl jM122 jq122_0 ?_
  refine jw_callS [(jb_v l1)] jM122 jq122_1 rfl rfl rfl jM136 rfl rfl ?_
  show jb_w (d + 6) 136 0 [some (jb_v l1)] [] σ (jb_k (d + 7) 122 1 [some (.ref 2), some (jb_v l1), some (jb_v l2), none] [] Q)
  refine jiL0 (p := 1) rfl jM136 jq136_0 ?_
  refine jw_if (p := 4) rfl jM136 jq136_1 (jc_lt hl1 jb_r0) (fun c1 => ?_) (fun c1 => ?_)
  · have h1 := jo_p c1 h
    cases h1
    exact jb_throw (k := 2) jM136 jq136_10 rfl (Nat.le_add_left_of_le (by decide)) (k _ (s.cost 1 6) (fun _ z => by cases z))
  · have h1 := jo_n c1 h
    refine jiL0 (p := 5) rfl jM136 jq136_4 ?_
    refine jw_bipush (p := 7) rfl jM136 jq136_5 (by decide) ?_
    refine jw_ic (p := 10) rfl jM136 jq136_7 (jc_lt hl1 (jb_rn rfl)) (fun c2 => ?_) (fun c2 => ?_)
    · have h2 := jo_p c2 h1
      refine jw_vret jM136 jq136_21 ?_
      show jb_w (d + 7) 122 4 [some (.ref 2), some (jb_v l1), some (jb_v l2), none] [] σ Q
      refine jiL2 (p := 5) rfl jM122 jq122_4 ?_
      refine jw_if (p := 8) rfl jM122 jq122_5 (jc_ge hl2 jb_r0) (fun c3 => ?_) (fun c3 => ?_)
      · have h3 := jo_p c3 h2
        refine jaL0 (p := 20) rfl jM122 jq122_19 ?_
        refine jw_getP (p := 23) (i := 3) (q := 66) rfl jM122 jq122_20 rfl (jo_2 s.1) je_10_3 (jp_2_3 s.1) ?_
        refine jiL1 (p := 24) rfl jM122 jq122_23 ?_
        refine jw_callV [(jb_v l1)] jM122 jq122_24 rfl rfl (jo_66 s.1) rfl jM3 rfl rfl ?_
        obtain ⟨x4, b5, h5⟩ := jo_b h3
        refine jd3 hl1 b5 (fun σ4 s4 => ?_) σ s
        show jb_w (d + 7) 122 27 [some (.ref 2), some (jb_v l1), some (jb_v l2), none] [(.ref (x4.2))] σ4 Q
        refine jaS3 (p := 28) rfl jM122 jq122_27 ?_
        refine jaL3 (p := 29) rfl jM122 jq122_28 ?_
        refine jw_ifnull (p := 32) rfl jM122 jq122_29 (fun c6 => ?_) (fun c6 => ?_)
        · have h6 := jo_p c6 h5
          refine jw_iconst (p := 41) rfl jM122 jq122_40 ?_
          refine jw_goto jM122 jq122_41 ?_
          cases h6
          exact jw_iret jM122 jq122_49 (fun z => absurd z (by decide)) (k σ4 s4 (fun _ z => by cases z; exact (jb_rn rfl)))
        · have h6 := jo_n c6 h5
          refine jiL2 (p := 33) rfl jM122 jq122_32 ?_
          refine jaL3 (p := 34) rfl jM122 jq122_33 ?_
          obtain ⟨c7, h7⟩ := jo_i h6
          refine jc_getI (p := 37) (i := 2) rfl jM122 jq122_34 rfl (s4.pg c7).ob jn_4_2 s4 (jc_pgd c7) (by decide) rfl ?_
          refine jw_ic (p := 40) rfl jM122 jq122_37 (jc_lt hl2 (s4.r _ _)) (fun c8 => ?_) (fun c8 => ?_)
          · have h8 := jo_p c8 h7
            refine jaL3 (p := 45) rfl jM122 jq122_44 ?_
            refine jiL2 (p := 46) rfl jM122 jq122_45 ?_
            refine jw_callV [(jb_v l2)] jM122 jq122_46 rfl rfl (s4.pg c7).ob rfl jM37 rfl rfl ?_
            obtain ⟨x9, b10, h10⟩ := jo_b h8
            refine jd37 hl2 b10 (fun σ9 s9 r9 => ?_) σ4 s4
            show jb_w (d + 7) 122 49 [some (.ref 2), some (jb_v l1), some (jb_v l2), some (.ref (x4.2))] [(jb_v (x9.2))] σ9 Q
            cases h10
            exact jw_iret jM122 jq122_49 (fun z => absurd z (by decide)) (k σ9 s9 (fun _ z => by cases z; exact r9))
          · have h8 := jo_n c8 h7
            refine jw_iconst (p := 41) rfl jM122 jq122_40 ?_
            refine jw_goto jM122 jq122_41 ?_
            cases h8
            exact jw_iret jM122 jq122_49 (fun z => absurd z (by decide)) (k σ4 s4 (fun _ z => by cases z; exact (jb_rn rfl)))
      · have h3 := jo_n c3 h2
        cases h3
        exact jb_throw (k := 2) jM122 jq122_8 rfl (Nat.le_add_left_of_le (by decide)) (k _ (s.cost 1 6) (fun _ z => by cases z))
    · have h2 := jo_n c2 h1
      cases h2
      exact jb_throw (k := 2) jM136 jq136_10 rfl (Nat.le_add_left_of_le (by decide)) (k _ (s.cost 1 6) (fun _ z => by cases z))
-- 123 PageLoom.records need 0
def fc123 (K : jc_K) : Option (jc_K × Int) := some (K, jc_i K 63 4)
theorem jd123 {d : Nat} {σ0 : ib_H} {Q : ib_O → Prop} {K : jc_K} {r : (jc_K × Int)} (h : fc123 K  = some r) (k : ∀ σ, jc_S σ0 r.1 σ → jb_r r.2 → Q (.inl (some (jb_v r.2)), σ)) : jc_W σ0 K d 123 0 [some (.ref 2)] [] Q := by
  intro σ s
  unfold fc123 at h
  refine jaL0 (p := 1) rfl jM123 jq123_0 ?_
  refine jw_getP (p := 4) (i := 2) (q := 63) rfl jM123 jq123_1 rfl (jo_2 s.1) je_10_2 (jp_2_2 s.1) ?_
  refine jc_getI (p := 7) (i := 4) rfl jM123 jq123_4 rfl (jo_63 s.1) jn_2_4 s (by decide) (by decide) rfl ?_
  cases h
  exact jw_iret jM123 jq123_7 (fun z => absurd z (by decide)) (k σ s (s.r _ _))
-- 124 PageLoom.records need 0
def fc124 (K : jc_K) : Option (jc_K × Int) := some (K, jc_i K 63 4)
theorem jd124 {d : Nat} {σ0 : ib_H} {Q : ib_O → Prop} {K : jc_K} {r : (jc_K × Int)} (h : fc124 K  = some r) (k : ∀ σ, jc_S σ0 r.1 σ → jb_r r.2 → Q (.inl (some (jb_v r.2)), σ)) : jc_W σ0 K d 124 0 [some (.ref 2)] [] Q := by
  intro σ s
  unfold fc124 at h
  refine jaL0 (p := 1) rfl jM124 jq124_0 ?_
  refine jw_getP (p := 4) (i := 2) (q := 63) rfl jM124 jq124_1 rfl (jo_2 s.1) je_10_2 (jp_2_2 s.1) ?_
  refine jc_getI (p := 7) (i := 4) rfl jM124 jq124_4 rfl (jo_63 s.1) jn_2_4 s (by decide) (by decide) rfl ?_
  cases h
  exact jw_iret jM124 jq124_7 (fun z => absurd z (by decide)) (k σ s (s.r _ _))
-- 125 PageLoom.records need 0
def fc125 (K : jc_K) : Option (jc_K × Int) := some (K, jc_i K 63 4)
theorem jd125 {d : Nat} {σ0 : ib_H} {Q : ib_O → Prop} {K : jc_K} {r : (jc_K × Int)} (h : fc125 K  = some r) (k : ∀ σ, jc_S σ0 r.1 σ → jb_r r.2 → Q (.inl (some (jb_v r.2)), σ)) : jc_W σ0 K d 125 0 [some (.ref 2)] [] Q := by
  intro σ s
  unfold fc125 at h
  refine jaL0 (p := 1) rfl jM125 jq125_0 ?_
  refine jw_getP (p := 4) (i := 2) (q := 63) rfl jM125 jq125_1 rfl (jo_2 s.1) je_10_2 (jp_2_2 s.1) ?_
  refine jc_getI (p := 7) (i := 4) rfl jM125 jq125_4 rfl (jo_63 s.1) jn_2_4 s (by decide) (by decide) rfl ?_
  cases h
  exact jw_iret jM125 jq125_7 (fun z => absurd z (by decide)) (k σ s (s.r _ _))
-- 126 PageLoom.records need 0
def fc126 (K : jc_K) : Option (jc_K × Int) := some (K, jc_i K 63 4)
theorem jd126 {d : Nat} {σ0 : ib_H} {Q : ib_O → Prop} {K : jc_K} {r : (jc_K × Int)} (h : fc126 K  = some r) (k : ∀ σ, jc_S σ0 r.1 σ → jb_r r.2 → Q (.inl (some (jb_v r.2)), σ)) : jc_W σ0 K d 126 0 [some (.ref 2)] [] Q := by
  intro σ s
  unfold fc126 at h
  refine jaL0 (p := 1) rfl jM126 jq126_0 ?_
  refine jw_getP (p := 4) (i := 2) (q := 63) rfl jM126 jq126_1 rfl (jo_2 s.1) je_10_2 (jp_2_2 s.1) ?_
  refine jc_getI (p := 7) (i := 4) rfl jM126 jq126_4 rfl (jo_63 s.1) jn_2_4 s (by decide) (by decide) rfl ?_
  cases h
  exact jw_iret jM126 jq126_7 (fun z => absurd z (by decide)) (k σ s (s.r _ _))
-- 127 PageLoom.durable need 0
def fc127 (K : jc_K) : Option (jc_K × Int) := some (K, jc_i K 3 8)
theorem jd127 {d : Nat} {σ0 : ib_H} {Q : ib_O → Prop} {K : jc_K} {r : (jc_K × Int)} (h : fc127 K  = some r) (k : ∀ σ, jc_S σ0 r.1 σ → jb_r r.2 → Q (.inl (some (jb_v r.2)), σ)) : jc_W σ0 K d 127 0 [some (.ref 2)] [] Q := by
  intro σ s
  unfold fc127 at h
  refine jaL0 (p := 1) rfl jM127 jq127_0 ?_
  refine jw_getP (p := 4) (i := 0) (q := 3) rfl jM127 jq127_1 rfl (jo_2 s.1) je_10_0 (jp_2_0 s.1) ?_
  refine jc_getI (p := 7) (i := 8) rfl jM127 jq127_4 rfl (jo_3 s.1) jn_1_8 s (by decide) (by decide) rfl ?_
  cases h
  exact jw_iret jM127 jq127_7 (fun z => absurd z (by decide)) (k σ s (s.r _ _))
-- 128 PageLoom.records need 0
def fc128 (K : jc_K) : Option (jc_K × Int) := some (K, jc_i K 63 4)
theorem jd128 {d : Nat} {σ0 : ib_H} {Q : ib_O → Prop} {K : jc_K} {r : (jc_K × Int)} (h : fc128 K  = some r) (k : ∀ σ, jc_S σ0 r.1 σ → jb_r r.2 → Q (.inl (some (jb_v r.2)), σ)) : jc_W σ0 K d 128 0 [some (.ref 2)] [] Q := by
  intro σ s
  unfold fc128 at h
  refine jaL0 (p := 1) rfl jM128 jq128_0 ?_
  refine jw_getP (p := 4) (i := 2) (q := 63) rfl jM128 jq128_1 rfl (jo_2 s.1) je_10_2 (jp_2_2 s.1) ?_
  refine jc_getI (p := 7) (i := 4) rfl jM128 jq128_4 rfl (jo_63 s.1) jn_2_4 s (by decide) (by decide) rfl ?_
  cases h
  exact jw_iret jM128 jq128_7 (fun z => absurd z (by decide)) (k σ s (s.r _ _))
-- 129 PageLoom.holder need 7
def fc129 (K : jc_K) (l1 : Int) : Option (jc_K × (Int ⊕ Nat)) := if l1 < 0 then (some (jc_cost K 1 6, .inr 0)) else (if l1 < 32 then (if 0 ≤ l1 ∧ l1 < 32 then some (K, .inl (jc_i K 62 l1)) else none) else (some (jc_cost K 1 6, .inr 0)))
theorem jd129 {d : Nat} {σ0 : ib_H} {Q : ib_O → Prop} {K : jc_K} {l1 : Int} (hl1 : jb_r l1) {r : (jc_K × (Int ⊕ Nat))} (h : fc129 K l1 = some r) (k : ∀ σ, jc_S σ0 r.1 σ → (∀ v, r.2 = .inl v → jb_r v) → jc_E false r.2 σ Q) : jc_W σ0 K (d + 7) 129 0 [some (.ref 2), some (jb_v l1)] [] Q := by
  intro σ s
  unfold fc129 at h
  refine jiL1 (p := 1) rfl jM129 jq129_0 ?_
  refine jw_callS [(jb_v l1)] jM129 jq129_1 rfl rfl rfl jM135 rfl rfl ?_
  show jb_w (d + 6) 135 0 [some (jb_v l1)] [] σ (jb_k (d + 7) 129 1 [some (.ref 2), some (jb_v l1)] [] Q)
  refine jiL0 (p := 1) rfl jM135 jq135_0 ?_
  refine jw_if (p := 4) rfl jM135 jq135_1 (jc_lt hl1 jb_r0) (fun c1 => ?_) (fun c1 => ?_)
  · have h1 := jo_p c1 h
    cases h1
    exact jb_throw (k := 0) jM135 jq135_10 rfl (Nat.le_add_left_of_le (by decide)) (k _ (s.cost 1 6) (fun _ z => by cases z))
  · have h1 := jo_n c1 h
    refine jiL0 (p := 5) rfl jM135 jq135_4 ?_
    refine jw_bipush (p := 7) rfl jM135 jq135_5 (by decide) ?_
    refine jw_ic (p := 10) rfl jM135 jq135_7 (jc_lt hl1 (jb_rn rfl)) (fun c2 => ?_) (fun c2 => ?_)
    · have h2 := jo_p c2 h1
      refine jw_vret jM135 jq135_21 ?_
      show jb_w (d + 7) 129 4 [some (.ref 2), some (jb_v l1)] [] σ Q
      refine jaL0 (p := 5) rfl jM129 jq129_4 ?_
      refine jw_getP (p := 8) (i := 1) (q := 57) rfl jM129 jq129_5 rfl (jo_2 s.1) je_10_1 (jp_2_1 s.1) ?_
      refine jw_getP (p := 11) (i := 4) (q := 62) rfl jM129 jq129_8 rfl (jo_57 s.1) je_6_4 (jp_57_4 s.1) ?_
      refine jiL1 (p := 12) rfl jM129 jq129_11 ?_
      obtain ⟨c3, h3⟩ := jo_i h2
      refine jc_iald (p := 13) rfl jM129 jq129_12 (ja_62 s.1) c3.1 c3.2 s (by decide) rfl ?_
      cases h3
      exact jw_iret jM129 jq129_13 (fun z => absurd z (by decide)) (k σ s (fun _ z => by cases z; exact (s.r _ _)))
    · have h2 := jo_n c2 h1
      cases h2
      exact jb_throw (k := 0) jM135 jq135_10 rfl (Nat.le_add_left_of_le (by decide)) (k _ (s.cost 1 6) (fun _ z => by cases z))
-- 130 PageLoom.waitsFor need 7
def fc130 (K : jc_K) (l1 : Int) : Option (jc_K × (Int ⊕ Nat)) := if l1 < 0 then (some (jc_cost K 1 6, .inr 0)) else (if l1 < 4 then (if 0 ≤ l1 ∧ l1 < 4 then some (K, .inl (jc_i K 61 l1)) else none) else (some (jc_cost K 1 6, .inr 0)))
theorem jd130 {d : Nat} {σ0 : ib_H} {Q : ib_O → Prop} {K : jc_K} {l1 : Int} (hl1 : jb_r l1) {r : (jc_K × (Int ⊕ Nat))} (h : fc130 K l1 = some r) (k : ∀ σ, jc_S σ0 r.1 σ → (∀ v, r.2 = .inl v → jb_r v) → jc_E false r.2 σ Q) : jc_W σ0 K (d + 7) 130 0 [some (.ref 2), some (jb_v l1)] [] Q := by
  intro σ s
  unfold fc130 at h
  refine jiL1 (p := 1) rfl jM130 jq130_0 ?_
  refine jw_callS [(jb_v l1)] jM130 jq130_1 rfl rfl rfl jM134 rfl rfl ?_
  show jb_w (d + 6) 134 0 [some (jb_v l1)] [] σ (jb_k (d + 7) 130 1 [some (.ref 2), some (jb_v l1)] [] Q)
  refine jiL0 (p := 1) rfl jM134 jq134_0 ?_
  refine jw_if (p := 4) rfl jM134 jq134_1 (jc_lt hl1 jb_r0) (fun c1 => ?_) (fun c1 => ?_)
  · have h1 := jo_p c1 h
    cases h1
    exact jb_throw (k := 0) jM134 jq134_9 rfl (Nat.le_add_left_of_le (by decide)) (k _ (s.cost 1 6) (fun _ z => by cases z))
  · have h1 := jo_n c1 h
    refine jiL0 (p := 5) rfl jM134 jq134_4 ?_
    refine jw_iconst (p := 6) rfl jM134 jq134_5 ?_
    refine jw_ic (p := 9) rfl jM134 jq134_6 (jc_lt hl1 (jb_rn rfl)) (fun c2 => ?_) (fun c2 => ?_)
    · have h2 := jo_p c2 h1
      refine jw_vret jM134 jq134_20 ?_
      show jb_w (d + 7) 130 4 [some (.ref 2), some (jb_v l1)] [] σ Q
      refine jaL0 (p := 5) rfl jM130 jq130_4 ?_
      refine jw_getP (p := 8) (i := 1) (q := 57) rfl jM130 jq130_5 rfl (jo_2 s.1) je_10_1 (jp_2_1 s.1) ?_
      refine jw_getP (p := 11) (i := 3) (q := 61) rfl jM130 jq130_8 rfl (jo_57 s.1) je_6_3 (jp_57_3 s.1) ?_
      refine jiL1 (p := 12) rfl jM130 jq130_11 ?_
      obtain ⟨c3, h3⟩ := jo_i h2
      refine jc_iald (p := 13) rfl jM130 jq130_12 (ja_61 s.1) c3.1 c3.2 s (by decide) rfl ?_
      cases h3
      exact jw_iret jM130 jq130_13 (fun z => absurd z (by decide)) (k σ s (fun _ z => by cases z; exact (s.r _ _)))
    · have h2 := jo_n c2 h1
      cases h2
      exact jb_throw (k := 0) jM134 jq134_9 rfl (Nat.le_add_left_of_le (by decide)) (k _ (s.cost 1 6) (fun _ z => by cases z))
-- 131 PageLoom.plain need 7
def fc131 (K : jc_K) (l1 : Int) : Option (jc_K × (Int ⊕ Nat)) := if l1 < 0 then (some (jc_cost K 1 6, .inr 0)) else (if l1 < 32 then ((fc22 K ).bind fun x3 => if 0 ≤ l1 ∧ l1 < 32 then some (x3.1, .inl (jc_i (x3.1) 65 l1)) else none) else (some (jc_cost K 1 6, .inr 0)))
theorem jd131 {d : Nat} {σ0 : ib_H} {Q : ib_O → Prop} {K : jc_K} {l1 : Int} (hl1 : jb_r l1) {r : (jc_K × (Int ⊕ Nat))} (h : fc131 K l1 = some r) (k : ∀ σ, jc_S σ0 r.1 σ → (∀ v, r.2 = .inl v → jb_r v) → jc_E false r.2 σ Q) : jc_W σ0 K (d + 7) 131 0 [some (.ref 2), some (jb_v l1)] [] Q := by
  intro σ s
  unfold fc131 at h
  refine jiL1 (p := 1) rfl jM131 jq131_0 ?_
  refine jw_callS [(jb_v l1)] jM131 jq131_1 rfl rfl rfl jM135 rfl rfl ?_
  show jb_w (d + 6) 135 0 [some (jb_v l1)] [] σ (jb_k (d + 7) 131 1 [some (.ref 2), some (jb_v l1)] [] Q)
  refine jiL0 (p := 1) rfl jM135 jq135_0 ?_
  refine jw_if (p := 4) rfl jM135 jq135_1 (jc_lt hl1 jb_r0) (fun c1 => ?_) (fun c1 => ?_)
  · have h1 := jo_p c1 h
    cases h1
    exact jb_throw (k := 0) jM135 jq135_10 rfl (Nat.le_add_left_of_le (by decide)) (k _ (s.cost 1 6) (fun _ z => by cases z))
  · have h1 := jo_n c1 h
    refine jiL0 (p := 5) rfl jM135 jq135_4 ?_
    refine jw_bipush (p := 7) rfl jM135 jq135_5 (by decide) ?_
    refine jw_ic (p := 10) rfl jM135 jq135_7 (jc_lt hl1 (jb_rn rfl)) (fun c2 => ?_) (fun c2 => ?_)
    · have h2 := jo_p c2 h1
      refine jw_vret jM135 jq135_21 ?_
      show jb_w (d + 7) 131 4 [some (.ref 2), some (jb_v l1)] [] σ Q
      refine jaL0 (p := 5) rfl jM131 jq131_4 ?_
      refine jw_getP (p := 8) (i := 2) (q := 63) rfl jM131 jq131_5 rfl (jo_2 s.1) je_10_2 (jp_2_2 s.1) ?_
      refine jw_callV [] jM131 jq131_8 rfl rfl (jo_63 s.1) rfl jM22 rfl rfl ?_
      obtain ⟨x3, b4, h4⟩ := jo_b h2
      refine jd22  b4 (fun σ3 s3 => ?_) σ s
      show jb_w (d + 7) 131 11 [some (.ref 2), some (jb_v l1)] [(.ref 65)] σ3 Q
      refine jiL1 (p := 12) rfl jM131 jq131_11 ?_
      obtain ⟨c5, h5⟩ := jo_i h4
      refine jc_iald (p := 13) rfl jM131 jq131_12 (ja_65 s3.1) c5.1 c5.2 s3 (by decide) rfl ?_
      cases h5
      exact jw_iret jM131 jq131_13 (fun z => absurd z (by decide)) (k σ3 s3 (fun _ z => by cases z; exact (s3.r _ _)))
    · have h2 := jo_n c2 h1
      cases h2
      exact jb_throw (k := 0) jM135 jq135_10 rfl (Nat.le_add_left_of_le (by decide)) (k _ (s.cost 1 6) (fun _ z => by cases z))
-- 132 PageLoom.agrees need 5
def fc132 (K : jc_K) : Option (jc_K × Int) := (fc98 K ).bind fun x1 => if x1.2 = 0 ∨ x1.2 = 1 then some (x1.1, x1.2) else none
theorem jd132 {d : Nat} {σ0 : ib_H} {Q : ib_O → Prop} {K : jc_K} {r : (jc_K × Int)} (h : fc132 K  = some r) (k : ∀ σ, jc_S σ0 r.1 σ → jb_r r.2 → Q (.inl (some (jb_v r.2)), σ)) : jc_W σ0 K (d + 5) 132 0 [some (.ref 2)] [] Q := by
  intro σ s
  unfold fc132 at h
  refine jaL0 (p := 1) rfl jM132 jq132_0 ?_
  refine jw_getP (p := 4) (i := 7) (q := 86) rfl jM132 jq132_1 rfl (jo_2 s.1) je_10_7 (jp_2_7 s.1) ?_
  refine jw_callV [] jM132 jq132_4 rfl rfl (jo_86 s.1) rfl jM98 rfl rfl ?_
  obtain ⟨x1, b2, h2⟩ := jo_b h
  refine jd98  b2 (fun σ1 s1 r1 => ?_) σ s
  show jb_w (d + 5) 132 7 [some (.ref 2)] [(jb_v (x1.2))] σ1 Q
  obtain ⟨c3, h3⟩ := jo_i h2
  cases h3
  exact jw_iret jM132 jq132_7 (fun _ => c3) (k σ1 s1 r1)
-- 133 PageLoom.check need 5
def fc133 (K : jc_K) : Option (jc_K × Int) := (fc100 K ).bind fun x1 => some (x1.1, x1.2)
theorem jd133 {d : Nat} {σ0 : ib_H} {Q : ib_O → Prop} {K : jc_K} {r : (jc_K × Int)} (h : fc133 K  = some r) (k : ∀ σ, jc_S σ0 r.1 σ → jb_r r.2 → Q (.inl (some (jb_v r.2)), σ)) : jc_W σ0 K (d + 5) 133 0 [some (.ref 2)] [] Q := by
  intro σ s
  unfold fc133 at h
  refine jaL0 (p := 1) rfl jM133 jq133_0 ?_
  refine jw_getP (p := 4) (i := 7) (q := 86) rfl jM133 jq133_1 rfl (jo_2 s.1) je_10_7 (jp_2_7 s.1) ?_
  refine jw_callV [] jM133 jq133_4 rfl rfl (jo_86 s.1) rfl jM100 rfl rfl ?_
  obtain ⟨x1, b2, h2⟩ := jo_b h
  refine jd100  b2 (fun σ1 s1 r1 => ?_) σ s
  show jb_w (d + 5) 133 7 [some (.ref 2)] [(jb_v (x1.2))] σ1 Q
  cases h2
  exact jw_iret jM133 jq133_7 (fun z => absurd z (by decide)) (k σ1 s1 r1)
