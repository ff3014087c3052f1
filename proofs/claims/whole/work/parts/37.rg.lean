/-! the reference as functions: written by wip/tools/genf.py (gr5.py) -/
-- 191 open need 2
def fo191 (G : jg_G) (l1 : Int) : Option (jg_G × Int) := if l1 < 0 then (some (jg_u G 92 0 1, 0)) else (if 3 < l1 then (some (jg_u G 92 0 1, 0)) else (if G 92 7 = 0 then (if 0 ≤ l1 ∧ l1 < 4 then if G 107 l1 = 0 then (if 0 ≤ l1 ∧ l1 < 4 then some (jg_u (fr_cl (jg_u G 92 0 0) l1) 107 l1 1, 0) else none) else (some (jg_u G 92 0 2, 0)) else none) else (some (jg_u G 92 0 2, 0))))
theorem jf191 {d : Nat} {σ0 : ib_H} {Q : ib_O → Prop} {G : jg_G} {l1 : Int} (hl1 : jb_r l1) {r : jg_G × Int} (h : fo191 G l1 = some r) (k : ∀ σ, jg_S σ0 r.1 σ → Q (.inl none, σ)) : jg_W σ0 G (d + 2) 191 0 [some (.ref 92), some (jb_v l1)] [] Q := by
  intro σ s
  unfold fo191 at h
  refine jaL0 (p := 1) rfl jM191 jq191_0 ?_
  refine jiL1 (p := 2) rfl jM191 jq191_1 ?_
  refine jw_callS [(jb_v l1)] jM191 jq191_2 rfl rfl rfl jM184 rfl rfl ?_
  show jb_w (d + 1) 184 0 [some (jb_v l1)] [] σ (jb_k (d + 2) 191 2 [some (.ref 92), some (jb_v l1)] [(.ref 92)] Q)
  refine jiL0 (p := 1) rfl jM184 jq184_0 ?_
  refine jw_iconst (p := 2) rfl jM184 jq184_1 ?_
  refine jw_iconst (p := 3) rfl jM184 jq184_2 ?_
  refine jw_callS [(jb_v l1), (jb_v 0), (jb_v 3)] jM184 jq184_3 rfl rfl rfl jM147 rfl rfl ?_
  show jb_w d 147 0 [some (jb_v l1), some (jb_v 0), some (jb_v 3)] [] σ (jb_k (d + 1) 184 3 [some (jb_v l1)] [] (jb_k (d + 2) 191 2 [some (.ref 92), some (jb_v l1)] [(.ref 92)] Q))
  refine jiL0 (p := 1) rfl jM147 jq147_0 ?_
  refine jiL1 (p := 2) rfl jM147 jq147_1 ?_
  refine jw_ic (p := 5) rfl jM147 jq147_2 (jc_lt hl1 (jb_rn rfl)) (fun c1 => ?_) (fun c1 => ?_)
  · have h1 := jo_p c1 h
    refine jw_iconst (p := 15) rfl jM147 jq147_14 ?_
    refine jw_iret jM147 jq147_15 (fun _ => Or.inl rfl) ?_
    show jb_w (d + 1) 184 6 [some (jb_v l1)] [(jb_v 0)] σ (jb_k (d + 2) 191 2 [some (.ref 92), some (jb_v l1)] [(.ref 92)] Q)
    refine jw_iret jM184 jq184_6 (fun _ => Or.inl rfl) ?_
    show jb_w (d + 2) 191 5 [some (.ref 92), some (jb_v l1)] [(jb_v 0), (.ref 92)] σ Q
    refine jw_if (p := 8) rfl jM191 jq191_5 (jc_ne (jb_rn rfl) jb_r0) (fun z => absurd z (by decide)) (fun _ => ?_)
    refine jw_iconst (p := 9) rfl jM191 jq191_8 ?_
    refine jw_goto jM191 jq191_9 ?_
    refine jg_putI (p := 36) (i := 0) rfl jM191 jq191_33 rfl (jo_92 s.1) (Or.inl jz_11_0) s (by decide) (by decide) (jb_rn rfl) ?_
    intro σ2 s2
    refine jaL0 (p := 37) rfl jM191 jq191_36 ?_
    refine jg_getI (p := 40) (i := 0) rfl jM191 jq191_37 rfl (jo_92 s2.1) jn_11_0 s2 (by decide) (by decide) jg_uH ?_
    refine jw_if (p := 43) rfl jM191 jq191_40 (jc_ne (jb_rn rfl) jb_r0) (fun _ => ?_) (fun z => absurd (by decide) z)
    cases h1
    exact jw_vret jM191 jq191_55 (k σ2 s2)
  · have h1 := jo_n c1 h
    refine jiL0 (p := 6) rfl jM147 jq147_5 ?_
    refine jiL2 (p := 7) rfl jM147 jq147_6 ?_
    refine jw_ic (p := 10) rfl jM147 jq147_7 (jc_gt hl1 (jb_rn rfl)) (fun c3 => ?_) (fun c3 => ?_)
    · have h3 := jo_p c3 h1
      refine jw_iconst (p := 15) rfl jM147 jq147_14 ?_
      refine jw_iret jM147 jq147_15 (fun _ => Or.inl rfl) ?_
      show jb_w (d + 1) 184 6 [some (jb_v l1)] [(jb_v 0)] σ (jb_k (d + 2) 191 2 [some (.ref 92), some (jb_v l1)] [(.ref 92)] Q)
      refine jw_iret jM184 jq184_6 (fun _ => Or.inl rfl) ?_
      show jb_w (d + 2) 191 5 [some (.ref 92), some (jb_v l1)] [(jb_v 0), (.ref 92)] σ Q
      refine jw_if (p := 8) rfl jM191 jq191_5 (jc_ne (jb_rn rfl) jb_r0) (fun z => absurd z (by decide)) (fun _ => ?_)
      refine jw_iconst (p := 9) rfl jM191 jq191_8 ?_
      refine jw_goto jM191 jq191_9 ?_
      refine jg_putI (p := 36) (i := 0) rfl jM191 jq191_33 rfl (jo_92 s.1) (Or.inl jz_11_0) s (by decide) (by decide) (jb_rn rfl) ?_
      intro σ4 s4
      refine jaL0 (p := 37) rfl jM191 jq191_36 ?_
      refine jg_getI (p := 40) (i := 0) rfl jM191 jq191_37 rfl (jo_92 s4.1) jn_11_0 s4 (by decide) (by decide) jg_uH ?_
      refine jw_if (p := 43) rfl jM191 jq191_40 (jc_ne (jb_rn rfl) jb_r0) (fun _ => ?_) (fun z => absurd (by decide) z)
      cases h3
      exact jw_vret jM191 jq191_55 (k σ4 s4)
    · have h3 := jo_n c3 h1
      refine jw_iconst (p := 11) rfl jM147 jq147_10 ?_
      refine jw_goto jM147 jq147_11 ?_
      refine jw_iret jM147 jq147_15 (fun _ => Or.inr rfl) ?_
      show jb_w (d + 1) 184 6 [some (jb_v l1)] [(jb_v 1)] σ (jb_k (d + 2) 191 2 [some (.ref 92), some (jb_v l1)] [(.ref 92)] Q)
      refine jw_iret jM184 jq184_6 (fun _ => Or.inr rfl) ?_
      show jb_w (d + 2) 191 5 [some (.ref 92), some (jb_v l1)] [(jb_v 1), (.ref 92)] σ Q
      refine jw_if (p := 8) rfl jM191 jq191_5 (jc_ne (jb_rn rfl) jb_r0) (fun _ => ?_) (fun z => absurd (by decide) z)
      refine jaL0 (p := 13) rfl jM191 jq191_12 ?_
      refine jg_getI (p := 16) (i := 7) rfl jM191 jq191_13 rfl (jo_92 s.1) jn_11_7 s (by decide) (by decide) rfl ?_
      refine jw_if (p := 19) rfl jM191 jq191_16 (jc_ne (s.r _ _) jb_r0) (fun c5 => ?_) (fun c5 => ?_)
      · have h5 := jo_n c5 h3
        refine jw_iconst (p := 29) rfl jM191 jq191_28 ?_
        refine jw_goto jM191 jq191_29 ?_
        refine jg_putI (p := 36) (i := 0) rfl jM191 jq191_33 rfl (jo_92 s.1) (Or.inl jz_11_0) s (by decide) (by decide) (jb_rn rfl) ?_
        intro σ6 s6
        refine jaL0 (p := 37) rfl jM191 jq191_36 ?_
        refine jg_getI (p := 40) (i := 0) rfl jM191 jq191_37 rfl (jo_92 s6.1) jn_11_0 s6 (by decide) (by decide) jg_uH ?_
        refine jw_if (p := 43) rfl jM191 jq191_40 (jc_ne (jb_rn rfl) jb_r0) (fun _ => ?_) (fun z => absurd (by decide) z)
        cases h5
        exact jw_vret jM191 jq191_55 (k σ6 s6)
      · have h5 := jo_p (Decidable.byContradiction c5) h3
        refine jaL0 (p := 20) rfl jM191 jq191_19 ?_
        refine jw_getP (p := 23) (i := 23) (q := 107) rfl jM191 jq191_20 rfl (jo_92 s.1) je_11_23 (jp_92_23 s.1) ?_
        refine jiL1 (p := 24) rfl jM191 jq191_23 ?_
        obtain ⟨c7, h7⟩ := jo_i h5
        refine jg_bald (p := 25) rfl jM191 jq191_24 (ja_107 s.1) c7.1 c7.2 s (by decide) rfl ?_
        refine jw_if (p := 28) rfl jM191 jq191_25 (jc_eq (s.r _ _) jb_r0) (fun c8 => ?_) (fun c8 => ?_)
        · have h8 := jo_p c8 h7
          refine jw_iconst (p := 33) rfl jM191 jq191_32 ?_
          refine jg_putI (p := 36) (i := 0) rfl jM191 jq191_33 rfl (jo_92 s.1) (Or.inl jz_11_0) s (by decide) (by decide) (jb_rn rfl) ?_
          intro σ9 s9
          refine jaL0 (p := 37) rfl jM191 jq191_36 ?_
          refine jg_getI (p := 40) (i := 0) rfl jM191 jq191_37 rfl (jo_92 s9.1) jn_11_0 s9 (by decide) (by decide) jg_uH ?_
          refine jw_if (p := 43) rfl jM191 jq191_40 (jc_ne (jb_rn rfl) jb_r0) (fun z => absurd z (by decide)) (fun _ => ?_)
          refine jaL0 (p := 44) rfl jM191 jq191_43 ?_
          refine jiL1 (p := 45) rfl jM191 jq191_44 ?_
          refine jw_callV [(jb_v l1)] jM191 jq191_45 rfl rfl (jo_92 s9.1) rfl jM185 rfl rfl ?_
          obtain ⟨c10, h10⟩ := jo_i h8
          refine cs185 c10 (fun σ11 s11 => ?_) σ9 s9
          show jb_w (d + 2) 191 48 [some (.ref 92), some (jb_v l1)] [] σ11 Q
          refine jaL0 (p := 49) rfl jM191 jq191_48 ?_
          refine jw_getP (p := 52) (i := 23) (q := 107) rfl jM191 jq191_49 rfl (jo_92 s11.1) je_11_23 (jp_92_23 s11.1) ?_
          refine jiL1 (p := 53) rfl jM191 jq191_52 ?_
          refine jw_iconst (p := 54) rfl jM191 jq191_53 ?_
          refine jg_bast (p := 55) rfl jM191 jq191_54 (ja_107 s11.1) c7.1 c7.2 (Or.inr rfl) s11 (by decide) ?_
          intro σ12 s12
          cases h10
          exact jw_vret jM191 jq191_55 (k σ12 s12)
        · have h8 := jo_n c8 h7
          refine jw_iconst (p := 29) rfl jM191 jq191_28 ?_
          refine jw_goto jM191 jq191_29 ?_
          refine jg_putI (p := 36) (i := 0) rfl jM191 jq191_33 rfl (jo_92 s.1) (Or.inl jz_11_0) s (by decide) (by decide) (jb_rn rfl) ?_
          intro σ13 s13
          refine jaL0 (p := 37) rfl jM191 jq191_36 ?_
          refine jg_getI (p := 40) (i := 0) rfl jM191 jq191_37 rfl (jo_92 s13.1) jn_11_0 s13 (by decide) (by decide) jg_uH ?_
          refine jw_if (p := 43) rfl jM191 jq191_40 (jc_ne (jb_rn rfl) jb_r0) (fun _ => ?_) (fun z => absurd (by decide) z)
          cases h8
          exact jw_vret jM191 jq191_55 (k σ13 s13)
-- 193 put need 13
def fo193_s : Nat → Nat → jg_G → Int → Int → Int → Int → Int → Option (jg_G × Int)
  | 0, _, _, _, _, _, _, _ => none
  | m + 1, t, G, l1, l2, l3, l4, l5 => if t = 97 then (if G 92 7 = 0 then (if 0 ≤ ((G 92 29) - 1) ∧ ((G 92 29) - 1) < 25 then if 0 ≤ (G 112 ((G 92 29) - 1)) ∧ (G 112 ((G 92 29) - 1)) < 24 then jo_l (fr_ro G (G 112 ((G 92 29) - 1))) fun x4 => if 0 ≤ x4 ∧ x4 < 4554 then if 0 ≤ G 93 (67 * x4 + 2) ∧ G 93 (67 * x4 + 2) ≤ 32 then jo_l (fr_pl G x4 l2) fun x8 => if 0 ≤ x8 then ((fo192 G l1 l2 l3).bind fun x11 => if (x11.1) 92 7 = 0 then (some (x11.1, 0)) else (some (x11.1, (-4)))) else ((fo177 G (G 112 ((G 92 29) - 1))).bind fun x14 => if x14.2 = 0 then (if (x14.1) 92 7 = 0 then ((fo192 (x14.1) l1 l2 l3).bind fun x18 => if (x18.1) 92 7 = 0 then (some (x18.1, 0)) else (some (x18.1, (-4)))) else (some (x14.1, (-4)))) else (if -2147483648 ≤ (((x14.1) 92 29) - 1) ∧ (((x14.1) 92 29) - 1) < 2147483648 then fo193_s m 153 (x14.1) l1 l2 l3 l4 (((x14.1) 92 29) - 1) else none)) else none else none else none else none) else (some (G, (-4)))) else if t = 153 then (if l5 ≤ 0 then ((fo176 G 0).bind fun x23 => if x23.2 = 24 then (some (x23.1, (-5))) else (if l5 = 0 then (if -2147483648 ≤ ((x23.2) + 1) ∧ ((x23.2) + 1) < 2147483648 then (fo176 (x23.1) ((x23.2) + 1)).bind fun x35 => if x35.2 = 24 then (some (x35.1, (-5))) else ((fo178 (x35.1) ).bind fun x38 => if (x38.1) 92 7 = 0 then ((fo175 (x38.1) l2).bind fun x41 => fo193_s m 97 (x41.1) l1 l2 l3 l4 0) else (fo193_s m 97 (x38.1) l1 l2 l3 l4 0)) else none) else (if 0 ≤ l5 ∧ l5 < 25 then if 0 ≤ (l5 - 1) ∧ (l5 - 1) < 25 then (fo180 (x23.1) ((x23.1) 112 l5) ((x23.1) 112 (l5 - 1))).bind fun x29 => if (x29.1) 92 7 = 0 then ((fo175 (x29.1) l2).bind fun x32 => fo193_s m 97 (x32.1) l1 l2 l3 l4 0) else (fo193_s m 97 (x29.1) l1 l2 l3 l4 0) else none else none))) else (if 0 ≤ (l5 - 1) ∧ (l5 - 1) < 25 then (fo177 G (G 112 (l5 - 1))).bind fun x44 => if x44.2 = 0 then ((fo176 (x44.1) 0).bind fun x47 => if x47.2 = 24 then (some (x47.1, (-5))) else (if l5 = 0 then (if -2147483648 ≤ ((x47.2) + 1) ∧ ((x47.2) + 1) < 2147483648 then (fo176 (x47.1) ((x47.2) + 1)).bind fun x58 => if x58.2 = 24 then (some (x58.1, (-5))) else ((fo178 (x58.1) ).bind fun x61 => if (x61.1) 92 7 = 0 then ((fo175 (x61.1) l2).bind fun x64 => fo193_s m 97 (x64.1) l1 l2 l3 l4 0) else (fo193_s m 97 (x61.1) l1 l2 l3 l4 0)) else none) else (if 0 ≤ l5 ∧ l5 < 25 then (fo180 (x47.1) ((x47.1) 112 l5) ((x47.1) 112 (l5 - 1))).bind fun x52 => if (x52.1) 92 7 = 0 then ((fo175 (x52.1) l2).bind fun x55 => fo193_s m 97 (x55.1) l1 l2 l3 l4 0) else (fo193_s m 97 (x52.1) l1 l2 l3 l4 0) else none))) else (if -2147483648 ≤ (l5 + (-1)) ∧ (l5 + (-1)) < 2147483648 then fo193_s m 153 (x44.1) l1 l2 l3 l4 (l5 + (-1)) else none) else none)) else none
theorem jf193_s {d : Nat} {σ0 : ib_H} {Q : ib_O → Prop} : ∀ (m : Nat), (∀ {G : jg_G} {l1 : Int} {l2 : Int} {l3 : Int} {l4 : Int} {o5 : Option Value} {o6 : Option Value} (hl1 : jb_r l1) (hl2 : jb_r l2) (hl3 : jb_r l3) (hl4 : jb_r l4) {r : jg_G × Int} (h : fo193_s m 97 G l1 l2 l3 l4 0 = some r) (k : ∀ σ, jg_S σ0 r.1 σ → jb_r r.2 → Q (.inl (some (jb_v r.2)), σ)), jg_W σ0 G (d + 13) 193 97 [some (.ref 92), some (jb_v l1), some (jb_v l2), some (jb_v l3), some (jb_v l4), o5, o6] [] Q) ∧ (∀ {G : jg_G} {l1 : Int} {l2 : Int} {l3 : Int} {l4 : Int} {l5 : Int} {o6 : Option Value} (hl1 : jb_r l1) (hl2 : jb_r l2) (hl3 : jb_r l3) (hl4 : jb_r l4) (hl5 : jb_r l5) {r : jg_G × Int} (h : fo193_s m 153 G l1 l2 l3 l4 l5 = some r) (k : ∀ σ, jg_S σ0 r.1 σ → jb_r r.2 → Q (.inl (some (jb_v r.2)), σ)), jg_W σ0 G (d + 13) 193 153 [some (.ref 92), some (jb_v l1), some (jb_v l2), some (jb_v l3), some (jb_v l4), some (jb_v l5), o6] [] Q) := by
  intro m
  induction m with
  | zero =>
    refine ⟨?_, ?_⟩
    · intro G l1 l2 l3 l4 o5 o6 hl1 hl2 hl3 hl4 r h k
      cases h
    · intro G l1 l2 l3 l4 l5 o6 hl1 hl2 hl3 hl4 hl5 r h k
      cases h
  | succ m ih =>
    refine ⟨?_, ?_⟩
    · intro G l1 l2 l3 l4 o5 o6 hl1 hl2 hl3 hl4 r h k σ s
      unfold fo193_s at h
      have h := jo_p rfl h
      refine jaL0 (p := 98) rfl jM193 jq193_97 ?_
      refine jg_getI (p := 101) (i := 7) rfl jM193 jq193_98 rfl (jo_92 s.1) jn_11_7 s (by decide) (by decide) rfl ?_
      refine jw_if (p := 104) rfl jM193 jq193_101 (jc_ne (s.r _ _) jb_r0) (fun c1 => ?_) (fun c1 => ?_)
      · have h1 := jo_n c1 h
        refine jaL0 (p := 263) rfl jM193 jq193_262 ?_
        refine jg_getI (p := 266) (i := 7) rfl jM193 jq193_263 rfl (jo_92 s.1) jn_11_7 s (by decide) (by decide) rfl ?_
        refine jw_if (p := 269) rfl jM193 jq193_266 (jc_ne (s.r _ _) jb_r0) (fun _ => ?_) (fun z => absurd c1 z)
        refine jaL0 (p := 277) rfl jM193 jq193_276 ?_
        refine jg_getI (p := 280) (i := 7) rfl jM193 jq193_277 rfl (jo_92 s.1) jn_11_7 s (by decide) (by decide) rfl ?_
        refine jw_if (p := 283) rfl jM193 jq193_280 (jc_eq (s.r _ _) jb_r0) (fun z => absurd z c1) (fun _ => ?_)
        refine jw_bipush (p := 285) rfl jM193 jq193_283 (by decide) ?_
        refine jw_goto jM193 jq193_285 ?_
        cases h1
        exact jw_iret jM193 jq193_289 (fun z => absurd z (by decide)) (k σ s (jb_rn rfl))
      · have h1 := jo_p (Decidable.byContradiction c1) h
        refine jaL0 (p := 105) rfl jM193 jq193_104 ?_
        refine jaL0 (p := 106) rfl jM193 jq193_105 ?_
        refine jaL0 (p := 107) rfl jM193 jq193_106 ?_
        refine jw_getP (p := 110) (i := 28) (q := 112) rfl jM193 jq193_107 rfl (jo_92 s.1) je_11_28 (jp_92_28 s.1) ?_
        refine jaL0 (p := 111) rfl jM193 jq193_110 ?_
        refine jg_getI (p := 114) (i := 29) rfl jM193 jq193_111 rfl (jo_92 s.1) jn_11_29 s (by decide) (by decide) rfl ?_
        refine jw_iconst (p := 115) rfl jM193 jq193_114 ?_
        refine jw_isub (p := 116) rfl jM193 jq193_115 ?_
        obtain ⟨c2, h2⟩ := jo_i h1
        refine jg_iald (p := 117) rfl jM193 jq193_116 (ja_112 s.1) c2.1 c2.2 s (by decide) rfl ?_
        refine jw_callV [(jb_v (G 112 ((G 92 29) - 1)))] jM193 jq193_117 rfl rfl (jo_92 s.1) rfl jM161 rfl rfl ?_
        obtain ⟨c3, h3⟩ := jo_i h2
        obtain ⟨x4, e5, h5⟩ := jo_lb h3
        refine cs161 c3 (fun σ4 s4 r4 => ?_) σ s
        rw [e5] at r4 ⊢
        show jb_w (d + 13) 193 120 [some (.ref 92), some (jb_v l1), some (jb_v l2), some (jb_v l3), some (jb_v l4), o5, o6] [(jb_v x4), (.ref 92)] σ4 Q
        refine jiL2 (p := 121) rfl jM193 jq193_120 ?_
        refine jw_callV [(jb_v x4), (jb_v l2)] jM193 jq193_121 rfl rfl (jo_92 s4.1) rfl jM158 rfl rfl ?_
        obtain ⟨c6, h6⟩ := jo_i h5
        obtain ⟨c7, h7⟩ := jo_i h6
        obtain ⟨x8, e9, h9⟩ := jo_lb h7
        refine cs158 c6 c7 hl2 (fun σ8 s8 r8 => ?_) σ4 s4
        rw [e9] at r8 ⊢
        show jb_w (d + 13) 193 124 [some (.ref 92), some (jb_v l1), some (jb_v l2), some (jb_v l3), some (jb_v l4), o5, o6] [(jb_v x8)] σ8 Q
        refine jw_if (p := 127) rfl jM193 jq193_124 (jc_ge r8 jb_r0) (fun c10 => ?_) (fun c10 => ?_)
        · have h10 := jo_p c10 h9
          refine jaL0 (p := 263) rfl jM193 jq193_262 ?_
          refine jg_getI (p := 266) (i := 7) rfl jM193 jq193_263 rfl (jo_92 s8.1) jn_11_7 s8 (by decide) (by decide) rfl ?_
          refine jw_if (p := 269) rfl jM193 jq193_266 (jc_ne (s.r _ _) jb_r0) (fun z => absurd (Decidable.byContradiction c1) z) (fun _ => ?_)
          refine jaL0 (p := 270) rfl jM193 jq193_269 ?_
          refine jiL1 (p := 271) rfl jM193 jq193_270 ?_
          refine jiL2 (p := 272) rfl jM193 jq193_271 ?_
          refine jiL3 (p := 273) rfl jM193 jq193_272 ?_
          refine jw_callV [(jb_v l1), (jb_v l2), (jb_v l3)] jM193 jq193_273 rfl rfl (jo_92 s8.1) rfl jM192 rfl rfl ?_
          obtain ⟨x11, b12, h12⟩ := jo_b h10
          refine jf192 hl1 hl2 hl3 b12 (fun σ11 s11 => ?_) σ8 s8
          show jb_w (d + 13) 193 276 [some (.ref 92), some (jb_v l1), some (jb_v l2), some (jb_v l3), some (jb_v l4), o5, o6] [] σ11 Q
          refine jaL0 (p := 277) rfl jM193 jq193_276 ?_
          refine jg_getI (p := 280) (i := 7) rfl jM193 jq193_277 rfl (jo_92 s11.1) jn_11_7 s11 (by decide) (by decide) rfl ?_
          refine jw_if (p := 283) rfl jM193 jq193_280 (jc_eq (s11.r _ _) jb_r0) (fun c13 => ?_) (fun c13 => ?_)
          · have h13 := jo_p c13 h12
            refine jw_iconst (p := 289) rfl jM193 jq193_288 ?_
            cases h13
            exact jw_iret jM193 jq193_289 (fun z => absurd z (by decide)) (k σ11 s11 (jb_rn rfl))
          · have h13 := jo_n c13 h12
            refine jw_bipush (p := 285) rfl jM193 jq193_283 (by decide) ?_
            refine jw_goto jM193 jq193_285 ?_
            cases h13
            exact jw_iret jM193 jq193_289 (fun z => absurd z (by decide)) (k σ11 s11 (jb_rn rfl))
        · have h10 := jo_n c10 h9
          refine jaL0 (p := 128) rfl jM193 jq193_127 ?_
          refine jaL0 (p := 129) rfl jM193 jq193_128 ?_
          refine jw_getP (p := 132) (i := 28) (q := 112) rfl jM193 jq193_129 rfl (jo_92 s8.1) je_11_28 (jp_92_28 s8.1) ?_
          refine jaL0 (p := 133) rfl jM193 jq193_132 ?_
          refine jg_getI (p := 136) (i := 29) rfl jM193 jq193_133 rfl (jo_92 s8.1) jn_11_29 s8 (by decide) (by decide) rfl ?_
          refine jw_iconst (p := 137) rfl jM193 jq193_136 ?_
          refine jw_isub (p := 138) rfl jM193 jq193_137 ?_
          refine jg_iald (p := 139) rfl jM193 jq193_138 (ja_112 s8.1) c2.1 c2.2 s8 (by decide) rfl ?_
          refine jw_callV [(jb_v (G 112 ((G 92 29) - 1)))] jM193 jq193_139 rfl rfl (jo_92 s8.1) rfl jM177 rfl rfl ?_
          obtain ⟨x14, b15, h15⟩ := jo_b h10
          refine jf177 (s.r _ _) b15 (fun σ14 s14 r14 => ?_) σ8 s8
          show jb_w (d + 13) 193 142 [some (.ref 92), some (jb_v l1), some (jb_v l2), some (jb_v l3), some (jb_v l4), o5, o6] [(jb_v (x14.2))] σ14 Q
          refine jw_if (p := 145) rfl jM193 jq193_142 (jc_eq r14 jb_r0) (fun c16 => ?_) (fun c16 => ?_)
          · have h16 := jo_p c16 h15
            refine jaL0 (p := 263) rfl jM193 jq193_262 ?_
            refine jg_getI (p := 266) (i := 7) rfl jM193 jq193_263 rfl (jo_92 s14.1) jn_11_7 s14 (by decide) (by decide) rfl ?_
            refine jw_if (p := 269) rfl jM193 jq193_266 (jc_ne (s14.r _ _) jb_r0) (fun c17 => ?_) (fun c17 => ?_)
            · have h17 := jo_n c17 h16
              refine jaL0 (p := 277) rfl jM193 jq193_276 ?_
              refine jg_getI (p := 280) (i := 7) rfl jM193 jq193_277 rfl (jo_92 s14.1) jn_11_7 s14 (by decide) (by decide) rfl ?_
              refine jw_if (p := 283) rfl jM193 jq193_280 (jc_eq (s14.r _ _) jb_r0) (fun z => absurd z c17) (fun _ => ?_)
              refine jw_bipush (p := 285) rfl jM193 jq193_283 (by decide) ?_
              refine jw_goto jM193 jq193_285 ?_
              cases h17
              exact jw_iret jM193 jq193_289 (fun z => absurd z (by decide)) (k σ14 s14 (jb_rn rfl))
            · have h17 := jo_p (Decidable.byContradiction c17) h16
              refine jaL0 (p := 270) rfl jM193 jq193_269 ?_
              refine jiL1 (p := 271) rfl jM193 jq193_270 ?_
              refine jiL2 (p := 272) rfl jM193 jq193_271 ?_
              refine jiL3 (p := 273) rfl jM193 jq193_272 ?_
              refine jw_callV [(jb_v l1), (jb_v l2), (jb_v l3)] jM193 jq193_273 rfl rfl (jo_92 s14.1) rfl jM192 rfl rfl ?_
              obtain ⟨x18, b19, h19⟩ := jo_b h17
              refine jf192 hl1 hl2 hl3 b19 (fun σ18 s18 => ?_) σ14 s14
              show jb_w (d + 13) 193 276 [some (.ref 92), some (jb_v l1), some (jb_v l2), some (jb_v l3), some (jb_v l4), o5, o6] [] σ18 Q
              refine jaL0 (p := 277) rfl jM193 jq193_276 ?_
              refine jg_getI (p := 280) (i := 7) rfl jM193 jq193_277 rfl (jo_92 s18.1) jn_11_7 s18 (by decide) (by decide) rfl ?_
              refine jw_if (p := 283) rfl jM193 jq193_280 (jc_eq (s18.r _ _) jb_r0) (fun c20 => ?_) (fun c20 => ?_)
              · have h20 := jo_p c20 h19
                refine jw_iconst (p := 289) rfl jM193 jq193_288 ?_
                cases h20
                exact jw_iret jM193 jq193_289 (fun z => absurd z (by decide)) (k σ18 s18 (jb_rn rfl))
              · have h20 := jo_n c20 h19
                refine jw_bipush (p := 285) rfl jM193 jq193_283 (by decide) ?_
                refine jw_goto jM193 jq193_285 ?_
                cases h20
                exact jw_iret jM193 jq193_289 (fun z => absurd z (by decide)) (k σ18 s18 (jb_rn rfl))
          · have h16 := jo_n c16 h15
            refine jaL0 (p := 146) rfl jM193 jq193_145 ?_
            refine jg_getI (p := 149) (i := 29) rfl jM193 jq193_146 rfl (jo_92 s14.1) jn_11_29 s14 (by decide) (by decide) rfl ?_
            refine jw_iconst (p := 150) rfl jM193 jq193_149 ?_
            refine jw_isub (p := 151) rfl jM193 jq193_150 ?_
            refine jiS5 (p := 153) rfl jM193 jq193_151 ?_
            obtain ⟨c21, h21⟩ := jo_i h16
            exact ih.2 hl1 hl2 hl3 hl4 c21 h21 k σ14 s14
    · intro G l1 l2 l3 l4 l5 o6 hl1 hl2 hl3 hl4 hl5 r h k σ s
      unfold fo193_s at h
      have h := jo_p rfl (jo_n (by decide) h)
      refine jiL5 (p := 155) rfl jM193 jq193_153 ?_
      refine jw_if (p := 158) rfl jM193 jq193_155 (jc_le hl5 jb_r0) (fun c22 => ?_) (fun c22 => ?_)
      · have h22 := jo_p c22 h
        refine jaL0 (p := 181) rfl jM193 jq193_180 ?_
        refine jw_iconst (p := 182) rfl jM193 jq193_181 ?_
        refine jw_callV [(jb_v 0)] jM193 jq193_182 rfl rfl (jo_92 s.1) rfl jM176 rfl rfl ?_
        obtain ⟨x23, b24, h24⟩ := jo_b h22
        refine jf176 (jb_rn rfl) b24 (fun σ23 s23 r23 => ?_) σ s
        show jb_w (d + 13) 193 185 [some (.ref 92), some (jb_v l1), some (jb_v l2), some (jb_v l3), some (jb_v l4), some (jb_v l5), o6] [(jb_v (x23.2))] σ23 Q
        refine jiS6 (p := 187) rfl jM193 jq193_185 ?_
        refine jiL6 (p := 189) rfl jM193 jq193_187 ?_
        refine jw_bipush (p := 191) rfl jM193 jq193_189 (by decide) ?_
        refine jw_ic (p := 194) rfl jM193 jq193_191 (jc_eq r23 (jb_rn rfl)) (fun c25 => ?_) (fun c25 => ?_)
        · have h25 := jo_p c25 h24
          refine jw_bipush (p := 214) rfl jM193 jq193_212 (by decide) ?_
          cases h25
          exact jw_iret jM193 jq193_214 (fun z => absurd z (by decide)) (k σ23 s23 (jb_rn rfl))
        · have h25 := jo_n c25 h24
          refine jiL5 (p := 196) rfl jM193 jq193_194 ?_
          refine jw_if (p := 199) rfl jM193 jq193_196 (jc_ne hl5 jb_r0) (fun c26 => ?_) (fun c26 => ?_)
          · have h26 := jo_n c26 h25
            refine jiL5 (p := 217) rfl jM193 jq193_215 ?_
            refine jw_if (p := 220) rfl jM193 jq193_217 (jc_ne hl5 jb_r0) (fun _ => ?_) (fun z => absurd c26 z)
            refine jaL0 (p := 228) rfl jM193 jq193_227 ?_
            refine jaL0 (p := 229) rfl jM193 jq193_228 ?_
            refine jw_getP (p := 232) (i := 28) (q := 112) rfl jM193 jq193_229 rfl (jo_92 s23.1) je_11_28 (jp_92_28 s23.1) ?_
            refine jiL5 (p := 234) rfl jM193 jq193_232 ?_
            obtain ⟨c27, h27⟩ := jo_i h26
            refine jg_iald (p := 235) rfl jM193 jq193_234 (ja_112 s23.1) c27.1 c27.2 s23 (by decide) rfl ?_
            refine jaL0 (p := 236) rfl jM193 jq193_235 ?_
            refine jw_getP (p := 239) (i := 28) (q := 112) rfl jM193 jq193_236 rfl (jo_92 s23.1) je_11_28 (jp_92_28 s23.1) ?_
            refine jiL5 (p := 241) rfl jM193 jq193_239 ?_
            refine jw_iconst (p := 242) rfl jM193 jq193_241 ?_
            refine jw_isub (p := 243) rfl jM193 jq193_242 ?_
            obtain ⟨c28, h28⟩ := jo_i h27
            refine jg_iald (p := 244) rfl jM193 jq193_243 (ja_112 s23.1) c28.1 c28.2 s23 (by decide) rfl ?_
            refine jw_callV [(jb_v ((x23.1) 112 l5)), (jb_v ((x23.1) 112 (l5 - 1)))] jM193 jq193_244 rfl rfl (jo_92 s23.1) rfl jM180 rfl rfl ?_
            obtain ⟨x29, b30, h30⟩ := jo_b h28
            refine jf180 (s23.r _ _) (s23.r _ _) b30 (fun σ29 s29 => ?_) σ23 s23
            show jb_w (d + 13) 193 247 [some (.ref 92), some (jb_v l1), some (jb_v l2), some (jb_v l3), some (jb_v l4), some (jb_v l5), some (jb_v (x23.2))] [] σ29 Q
            refine jaL0 (p := 248) rfl jM193 jq193_247 ?_
            refine jg_getI (p := 251) (i := 7) rfl jM193 jq193_248 rfl (jo_92 s29.1) jn_11_7 s29 (by decide) (by decide) rfl ?_
            refine jw_if (p := 254) rfl jM193 jq193_251 (jc_ne (s29.r _ _) jb_r0) (fun c31 => ?_) (fun c31 => ?_)
            · have h31 := jo_n c31 h30
              refine jw_goto jM193 jq193_259 ?_
              exact ih.1 hl1 hl2 hl3 hl4 h31 k σ29 s29
            · have h31 := jo_p (Decidable.byContradiction c31) h30
              refine jaL0 (p := 255) rfl jM193 jq193_254 ?_
              refine jiL2 (p := 256) rfl jM193 jq193_255 ?_
              refine jw_callV [(jb_v l2)] jM193 jq193_256 rfl rfl (jo_92 s29.1) rfl jM175 rfl rfl ?_
              obtain ⟨x32, b33, h33⟩ := jo_b h31
              refine jf175 hl2 b33 (fun σ32 s32 => ?_) σ29 s29
              show jb_w (d + 13) 193 259 [some (.ref 92), some (jb_v l1), some (jb_v l2), some (jb_v l3), some (jb_v l4), some (jb_v l5), some (jb_v (x23.2))] [] σ32 Q
              refine jw_goto jM193 jq193_259 ?_
              exact ih.1 hl1 hl2 hl3 hl4 h33 k σ32 s32
          · have h26 := jo_p (Decidable.byContradiction c26) h25
            refine jaL0 (p := 200) rfl jM193 jq193_199 ?_
            refine jiL6 (p := 202) rfl jM193 jq193_200 ?_
            refine jw_iconst (p := 203) rfl jM193 jq193_202 ?_
            refine jw_iadd (p := 204) rfl jM193 jq193_203 ?_
            refine jw_callV [(jb_v ((x23.2) + 1))] jM193 jq193_204 rfl rfl (jo_92 s23.1) rfl jM176 rfl rfl ?_
            obtain ⟨c34, h34⟩ := jo_i h26
            obtain ⟨x35, b36, h36⟩ := jo_b h34
            refine jf176 c34 b36 (fun σ35 s35 r35 => ?_) σ23 s23
            show jb_w (d + 13) 193 207 [some (.ref 92), some (jb_v l1), some (jb_v l2), some (jb_v l3), some (jb_v l4), some (jb_v l5), some (jb_v (x23.2))] [(jb_v (x35.2))] σ35 Q
            refine jw_bipush (p := 209) rfl jM193 jq193_207 (by decide) ?_
            refine jw_ic (p := 212) rfl jM193 jq193_209 (jc_ne r35 (jb_rn rfl)) (fun c37 => ?_) (fun c37 => ?_)
            · have h37 := jo_n c37 h36
              refine jiL5 (p := 217) rfl jM193 jq193_215 ?_
              refine jw_if (p := 220) rfl jM193 jq193_217 (jc_ne hl5 jb_r0) (fun z => absurd (Decidable.byContradiction c26) z) (fun _ => ?_)
              refine jaL0 (p := 221) rfl jM193 jq193_220 ?_
              refine jw_callV [] jM193 jq193_221 rfl rfl (jo_92 s35.1) rfl jM178 rfl rfl ?_
              obtain ⟨x38, b39, h39⟩ := jo_b h37
              refine jf178  b39 (fun σ38 s38 => ?_) σ35 s35
              show jb_w (d + 13) 193 224 [some (.ref 92), some (jb_v l1), some (jb_v l2), some (jb_v l3), some (jb_v l4), some (jb_v l5), some (jb_v (x23.2))] [] σ38 Q
              refine jw_goto jM193 jq193_224 ?_
              refine jaL0 (p := 248) rfl jM193 jq193_247 ?_
              refine jg_getI (p := 251) (i := 7) rfl jM193 jq193_248 rfl (jo_92 s38.1) jn_11_7 s38 (by decide) (by decide) rfl ?_
              refine jw_if (p := 254) rfl jM193 jq193_251 (jc_ne (s38.r _ _) jb_r0) (fun c40 => ?_) (fun c40 => ?_)
              · have h40 := jo_n c40 h39
                refine jw_goto jM193 jq193_259 ?_
                exact ih.1 hl1 hl2 hl3 hl4 h40 k σ38 s38
              · have h40 := jo_p (Decidable.byContradiction c40) h39
                refine jaL0 (p := 255) rfl jM193 jq193_254 ?_
                refine jiL2 (p := 256) rfl jM193 jq193_255 ?_
                refine jw_callV [(jb_v l2)] jM193 jq193_256 rfl rfl (jo_92 s38.1) rfl jM175 rfl rfl ?_
                obtain ⟨x41, b42, h42⟩ := jo_b h40
                refine jf175 hl2 b42 (fun σ41 s41 => ?_) σ38 s38
                show jb_w (d + 13) 193 259 [some (.ref 92), some (jb_v l1), some (jb_v l2), some (jb_v l3), some (jb_v l4), some (jb_v l5), some (jb_v (x23.2))] [] σ41 Q
                refine jw_goto jM193 jq193_259 ?_
                exact ih.1 hl1 hl2 hl3 hl4 h42 k σ41 s41
            · have h37 := jo_p (Decidable.byContradiction c37) h36
              refine jw_bipush (p := 214) rfl jM193 jq193_212 (by decide) ?_
              cases h37
              exact jw_iret jM193 jq193_214 (fun z => absurd z (by decide)) (k σ35 s35 (jb_rn rfl))
      · have h22 := jo_n c22 h
        refine jaL0 (p := 159) rfl jM193 jq193_158 ?_
        refine jaL0 (p := 160) rfl jM193 jq193_159 ?_
        refine jw_getP (p := 163) (i := 28) (q := 112) rfl jM193 jq193_160 rfl (jo_92 s.1) je_11_28 (jp_92_28 s.1) ?_
        refine jiL5 (p := 165) rfl jM193 jq193_163 ?_
        refine jw_iconst (p := 166) rfl jM193 jq193_165 ?_
        refine jw_isub (p := 167) rfl jM193 jq193_166 ?_
        obtain ⟨c43, h43⟩ := jo_i h22
        refine jg_iald (p := 168) rfl jM193 jq193_167 (ja_112 s.1) c43.1 c43.2 s (by decide) rfl ?_
        refine jw_callV [(jb_v (G 112 (l5 - 1)))] jM193 jq193_168 rfl rfl (jo_92 s.1) rfl jM177 rfl rfl ?_
        obtain ⟨x44, b45, h45⟩ := jo_b h43
        refine jf177 (s.r _ _) b45 (fun σ44 s44 r44 => ?_) σ s
        show jb_w (d + 13) 193 171 [some (.ref 92), some (jb_v l1), some (jb_v l2), some (jb_v l3), some (jb_v l4), some (jb_v l5), o6] [(jb_v (x44.2))] σ44 Q
        refine jw_if (p := 174) rfl jM193 jq193_171 (jc_eq r44 jb_r0) (fun c46 => ?_) (fun c46 => ?_)
        · have h46 := jo_p c46 h45
          refine jaL0 (p := 181) rfl jM193 jq193_180 ?_
          refine jw_iconst (p := 182) rfl jM193 jq193_181 ?_
          refine jw_callV [(jb_v 0)] jM193 jq193_182 rfl rfl (jo_92 s44.1) rfl jM176 rfl rfl ?_
          obtain ⟨x47, b48, h48⟩ := jo_b h46
          refine jf176 (jb_rn rfl) b48 (fun σ47 s47 r47 => ?_) σ44 s44
          show jb_w (d + 13) 193 185 [some (.ref 92), some (jb_v l1), some (jb_v l2), some (jb_v l3), some (jb_v l4), some (jb_v l5), o6] [(jb_v (x47.2))] σ47 Q
          refine jiS6 (p := 187) rfl jM193 jq193_185 ?_
          refine jiL6 (p := 189) rfl jM193 jq193_187 ?_
          refine jw_bipush (p := 191) rfl jM193 jq193_189 (by decide) ?_
          refine jw_ic (p := 194) rfl jM193 jq193_191 (jc_eq r47 (jb_rn rfl)) (fun c49 => ?_) (fun c49 => ?_)
          · have h49 := jo_p c49 h48
            refine jw_bipush (p := 214) rfl jM193 jq193_212 (by decide) ?_
            cases h49
            exact jw_iret jM193 jq193_214 (fun z => absurd z (by decide)) (k σ47 s47 (jb_rn rfl))
          · have h49 := jo_n c49 h48
            refine jiL5 (p := 196) rfl jM193 jq193_194 ?_
            refine jw_if (p := 199) rfl jM193 jq193_196 (jc_ne hl5 jb_r0) (fun c50 => ?_) (fun c50 => ?_)
            · have h50 := jo_n c50 h49
              refine jiL5 (p := 217) rfl jM193 jq193_215 ?_
              refine jw_if (p := 220) rfl jM193 jq193_217 (jc_ne hl5 jb_r0) (fun _ => ?_) (fun z => absurd c50 z)
              refine jaL0 (p := 228) rfl jM193 jq193_227 ?_
              refine jaL0 (p := 229) rfl jM193 jq193_228 ?_
              refine jw_getP (p := 232) (i := 28) (q := 112) rfl jM193 jq193_229 rfl (jo_92 s47.1) je_11_28 (jp_92_28 s47.1) ?_
              refine jiL5 (p := 234) rfl jM193 jq193_232 ?_
              obtain ⟨c51, h51⟩ := jo_i h50
              refine jg_iald (p := 235) rfl jM193 jq193_234 (ja_112 s47.1) c51.1 c51.2 s47 (by decide) rfl ?_
              refine jaL0 (p := 236) rfl jM193 jq193_235 ?_
              refine jw_getP (p := 239) (i := 28) (q := 112) rfl jM193 jq193_236 rfl (jo_92 s47.1) je_11_28 (jp_92_28 s47.1) ?_
              refine jiL5 (p := 241) rfl jM193 jq193_239 ?_
              refine jw_iconst (p := 242) rfl jM193 jq193_241 ?_
              refine jw_isub (p := 243) rfl jM193 jq193_242 ?_
              refine jg_iald (p := 244) rfl jM193 jq193_243 (ja_112 s47.1) c43.1 c43.2 s47 (by decide) rfl ?_
              refine jw_callV [(jb_v ((x47.1) 112 l5)), (jb_v ((x47.1) 112 (l5 - 1)))] jM193 jq193_244 rfl rfl (jo_92 s47.1) rfl jM180 rfl rfl ?_
              obtain ⟨x52, b53, h53⟩ := jo_b h51
              refine jf180 (s47.r _ _) (s47.r _ _) b53 (fun σ52 s52 => ?_) σ47 s47
              show jb_w (d + 13) 193 247 [some (.ref 92), some (jb_v l1), some (jb_v l2), some (jb_v l3), some (jb_v l4), some (jb_v l5), some (jb_v (x47.2))] [] σ52 Q
              refine jaL0 (p := 248) rfl jM193 jq193_247 ?_
              refine jg_getI (p := 251) (i := 7) rfl jM193 jq193_248 rfl (jo_92 s52.1) jn_11_7 s52 (by decide) (by decide) rfl ?_
              refine jw_if (p := 254) rfl jM193 jq193_251 (jc_ne (s52.r _ _) jb_r0) (fun c54 => ?_) (fun c54 => ?_)
              · have h54 := jo_n c54 h53
                refine jw_goto jM193 jq193_259 ?_
                exact ih.1 hl1 hl2 hl3 hl4 h54 k σ52 s52
              · have h54 := jo_p (Decidable.byContradiction c54) h53
                refine jaL0 (p := 255) rfl jM193 jq193_254 ?_
                refine jiL2 (p := 256) rfl jM193 jq193_255 ?_
                refine jw_callV [(jb_v l2)] jM193 jq193_256 rfl rfl (jo_92 s52.1) rfl jM175 rfl rfl ?_
                obtain ⟨x55, b56, h56⟩ := jo_b h54
                refine jf175 hl2 b56 (fun σ55 s55 => ?_) σ52 s52
                show jb_w (d + 13) 193 259 [some (.ref 92), some (jb_v l1), some (jb_v l2), some (jb_v l3), some (jb_v l4), some (jb_v l5), some (jb_v (x47.2))] [] σ55 Q
                refine jw_goto jM193 jq193_259 ?_
                exact ih.1 hl1 hl2 hl3 hl4 h56 k σ55 s55
            · have h50 := jo_p (Decidable.byContradiction c50) h49
              refine jaL0 (p := 200) rfl jM193 jq193_199 ?_
              refine jiL6 (p := 202) rfl jM193 jq193_200 ?_
              refine jw_iconst (p := 203) rfl jM193 jq193_202 ?_
              refine jw_iadd (p := 204) rfl jM193 jq193_203 ?_
              refine jw_callV [(jb_v ((x47.2) + 1))] jM193 jq193_204 rfl rfl (jo_92 s47.1) rfl jM176 rfl rfl ?_
              obtain ⟨c57, h57⟩ := jo_i h50
              obtain ⟨x58, b59, h59⟩ := jo_b h57
              refine jf176 c57 b59 (fun σ58 s58 r58 => ?_) σ47 s47
              show jb_w (d + 13) 193 207 [some (.ref 92), some (jb_v l1), some (jb_v l2), some (jb_v l3), some (jb_v l4), some (jb_v l5), some (jb_v (x47.2))] [(jb_v (x58.2))] σ58 Q
              refine jw_bipush (p := 209) rfl jM193 jq193_207 (by decide) ?_
              refine jw_ic (p := 212) rfl jM193 jq193_209 (jc_ne r58 (jb_rn rfl)) (fun c60 => ?_) (fun c60 => ?_)
              · have h60 := jo_n c60 h59
                refine jiL5 (p := 217) rfl jM193 jq193_215 ?_
                refine jw_if (p := 220) rfl jM193 jq193_217 (jc_ne hl5 jb_r0) (fun z => absurd (Decidable.byContradiction c50) z) (fun _ => ?_)
                refine jaL0 (p := 221) rfl jM193 jq193_220 ?_
                refine jw_callV [] jM193 jq193_221 rfl rfl (jo_92 s58.1) rfl jM178 rfl rfl ?_
                obtain ⟨x61, b62, h62⟩ := jo_b h60
                refine jf178  b62 (fun σ61 s61 => ?_) σ58 s58
                show jb_w (d + 13) 193 224 [some (.ref 92), some (jb_v l1), some (jb_v l2), some (jb_v l3), some (jb_v l4), some (jb_v l5), some (jb_v (x47.2))] [] σ61 Q
                refine jw_goto jM193 jq193_224 ?_
                refine jaL0 (p := 248) rfl jM193 jq193_247 ?_
                refine jg_getI (p := 251) (i := 7) rfl jM193 jq193_248 rfl (jo_92 s61.1) jn_11_7 s61 (by decide) (by decide) rfl ?_
                refine jw_if (p := 254) rfl jM193 jq193_251 (jc_ne (s61.r _ _) jb_r0) (fun c63 => ?_) (fun c63 => ?_)
                · have h63 := jo_n c63 h62
                  refine jw_goto jM193 jq193_259 ?_
                  exact ih.1 hl1 hl2 hl3 hl4 h63 k σ61 s61
                · have h63 := jo_p (Decidable.byContradiction c63) h62
                  refine jaL0 (p := 255) rfl jM193 jq193_254 ?_
                  refine jiL2 (p := 256) rfl jM193 jq193_255 ?_
                  refine jw_callV [(jb_v l2)] jM193 jq193_256 rfl rfl (jo_92 s61.1) rfl jM175 rfl rfl ?_
                  obtain ⟨x64, b65, h65⟩ := jo_b h63
                  refine jf175 hl2 b65 (fun σ64 s64 => ?_) σ61 s61
                  show jb_w (d + 13) 193 259 [some (.ref 92), some (jb_v l1), some (jb_v l2), some (jb_v l3), some (jb_v l4), some (jb_v l5), some (jb_v (x47.2))] [] σ64 Q
                  refine jw_goto jM193 jq193_259 ?_
                  exact ih.1 hl1 hl2 hl3 hl4 h65 k σ64 s64
              · have h60 := jo_p (Decidable.byContradiction c60) h59
                refine jw_bipush (p := 214) rfl jM193 jq193_212 (by decide) ?_
                cases h60
                exact jw_iret jM193 jq193_214 (fun z => absurd z (by decide)) (k σ58 s58 (jb_rn rfl))
        · have h46 := jo_n c46 h45
          refine jiI5 (p := 177) rfl jM193 jq193_174 ?_
          refine jw_goto jM193 jq193_177 ?_
          obtain ⟨c66, h66⟩ := jo_i h46
          exact ih.2 hl1 hl2 hl3 hl4 c66 h66 k σ44 s44

def fo193 (G : jg_G) (l1 : Int) (l2 : Int) (l3 : Int) : Option (jg_G × Int) := if l1 < 0 then (some (jg_u G 92 0 1, 0)) else (if 3 < l1 then (some (jg_u G 92 0 1, 0)) else (if l2 < 0 then (some (jg_u G 92 0 1, 0)) else (if 31 < l2 then (some (jg_u G 92 0 1, 0)) else (if l3 < 0 then (some (jg_u G 92 0 1, 0)) else (if 999 < l3 then (some (jg_u G 92 0 1, 0)) else (if G 92 7 = 0 then (if 0 ≤ l1 ∧ l1 < 4 then if G 107 l1 = 0 then (some (jg_u G 92 0 2, 0)) else (if G 92 12 < 200 then ((fo190 (jg_u G 92 0 0) l1 l2).bind fun x20 => if x20.2 = 0 then ((fo175 (x20.1) l2).bind fun x23 => fo193_s jo_N 97 (x23.1) l1 l2 l3 (x20.2) 0) else (some (x20.1, x20.2))) else (some (jg_u G 92 0 2, 0))) else none) else (some (jg_u G 92 0 2, 0))))))))
theorem jf193 {d : Nat} {σ0 : ib_H} {Q : ib_O → Prop} {G : jg_G} {l1 : Int} {l2 : Int} {l3 : Int} (hl1 : jb_r l1) (hl2 : jb_r l2) (hl3 : jb_r l3) {r : jg_G × Int} (h : fo193 G l1 l2 l3 = some r) (k : ∀ σ, jg_S σ0 r.1 σ → jb_r r.2 → Q (.inl (some (jb_v r.2)), σ)) : jg_W σ0 G (d + 13) 193 0 [some (.ref 92), some (jb_v l1), some (jb_v l2), some (jb_v l3), none, none, none] [] Q := by
  intro σ s
  unfold fo193 at h
  refine jaL0 (p := 1) rfl jM193 jq193_0 ?_
  refine jiL1 (p := 2) rfl jM193 jq193_1 ?_
  refine jw_callS [(jb_v l1)] jM193 jq193_2 rfl rfl rfl jM184 rfl rfl ?_
  show jb_w (d + 12) 184 0 [some (jb_v l1)] [] σ (jb_k (d + 13) 193 2 [some (.ref 92), some (jb_v l1), some (jb_v l2), some (jb_v l3), none, none, none] [(.ref 92)] Q)
  refine jiL0 (p := 1) rfl jM184 jq184_0 ?_
  refine jw_iconst (p := 2) rfl jM184 jq184_1 ?_
  refine jw_iconst (p := 3) rfl jM184 jq184_2 ?_
  refine jw_callS [(jb_v l1), (jb_v 0), (jb_v 3)] jM184 jq184_3 rfl rfl rfl jM147 rfl rfl ?_
  show jb_w (d + 11) 147 0 [some (jb_v l1), some (jb_v 0), some (jb_v 3)] [] σ (jb_k (d + 12) 184 3 [some (jb_v l1)] [] (jb_k (d + 13) 193 2 [some (.ref 92), some (jb_v l1), some (jb_v l2), some (jb_v l3), none, none, none] [(.ref 92)] Q))
  refine jiL0 (p := 1) rfl jM147 jq147_0 ?_
  refine jiL1 (p := 2) rfl jM147 jq147_1 ?_
  refine jw_ic (p := 5) rfl jM147 jq147_2 (jc_lt hl1 (jb_rn rfl)) (fun c1 => ?_) (fun c1 => ?_)
  · have h1 := jo_p c1 h
    refine jw_iconst (p := 15) rfl jM147 jq147_14 ?_
    refine jw_iret jM147 jq147_15 (fun _ => Or.inl rfl) ?_
    show jb_w (d + 12) 184 6 [some (jb_v l1)] [(jb_v 0)] σ (jb_k (d + 13) 193 2 [some (.ref 92), some (jb_v l1), some (jb_v l2), some (jb_v l3), none, none, none] [(.ref 92)] Q)
    refine jw_iret jM184 jq184_6 (fun _ => Or.inl rfl) ?_
    show jb_w (d + 13) 193 5 [some (.ref 92), some (jb_v l1), some (jb_v l2), some (jb_v l3), none, none, none] [(jb_v 0), (.ref 92)] σ Q
    refine jw_if (p := 8) rfl jM193 jq193_5 (jc_eq (jb_rn rfl) jb_r0) (fun _ => ?_) (fun z => absurd (by decide) z)
    refine jw_iconst (p := 30) rfl jM193 jq193_29 ?_
    refine jw_goto jM193 jq193_30 ?_
    refine jg_putI (p := 67) (i := 0) rfl jM193 jq193_64 rfl (jo_92 s.1) (Or.inl jz_11_0) s (by decide) (by decide) (jb_rn rfl) ?_
    intro σ2 s2
    refine jaL0 (p := 68) rfl jM193 jq193_67 ?_
    refine jg_getI (p := 71) (i := 0) rfl jM193 jq193_68 rfl (jo_92 s2.1) jn_11_0 s2 (by decide) (by decide) jg_uH ?_
    refine jw_if (p := 74) rfl jM193 jq193_71 (jc_le (jb_rn rfl) jb_r0) (fun z => absurd z (by decide)) (fun _ => ?_)
    refine jw_iconst (p := 75) rfl jM193 jq193_74 ?_
    cases h1
    exact jw_iret jM193 jq193_75 (fun z => absurd z (by decide)) (k σ2 s2 (jb_rn rfl))
  · have h1 := jo_n c1 h
    refine jiL0 (p := 6) rfl jM147 jq147_5 ?_
    refine jiL2 (p := 7) rfl jM147 jq147_6 ?_
    refine jw_ic (p := 10) rfl jM147 jq147_7 (jc_gt hl1 (jb_rn rfl)) (fun c3 => ?_) (fun c3 => ?_)
    · have h3 := jo_p c3 h1
      refine jw_iconst (p := 15) rfl jM147 jq147_14 ?_
      refine jw_iret jM147 jq147_15 (fun _ => Or.inl rfl) ?_
      show jb_w (d + 12) 184 6 [some (jb_v l1)] [(jb_v 0)] σ (jb_k (d + 13) 193 2 [some (.ref 92), some (jb_v l1), some (jb_v l2), some (jb_v l3), none, none, none] [(.ref 92)] Q)
      refine jw_iret jM184 jq184_6 (fun _ => Or.inl rfl) ?_
      show jb_w (d + 13) 193 5 [some (.ref 92), some (jb_v l1), some (jb_v l2), some (jb_v l3), none, none, none] [(jb_v 0), (.ref 92)] σ Q
      refine jw_if (p := 8) rfl jM193 jq193_5 (jc_eq (jb_rn rfl) jb_r0) (fun _ => ?_) (fun z => absurd (by decide) z)
      refine jw_iconst (p := 30) rfl jM193 jq193_29 ?_
      refine jw_goto jM193 jq193_30 ?_
      refine jg_putI (p := 67) (i := 0) rfl jM193 jq193_64 rfl (jo_92 s.1) (Or.inl jz_11_0) s (by decide) (by decide) (jb_rn rfl) ?_
      intro σ4 s4
      refine jaL0 (p := 68) rfl jM193 jq193_67 ?_
      refine jg_getI (p := 71) (i := 0) rfl jM193 jq193_68 rfl (jo_92 s4.1) jn_11_0 s4 (by decide) (by decide) jg_uH ?_
      refine jw_if (p := 74) rfl jM193 jq193_71 (jc_le (jb_rn rfl) jb_r0) (fun z => absurd z (by decide)) (fun _ => ?_)
      refine jw_iconst (p := 75) rfl jM193 jq193_74 ?_
      cases h3
      exact jw_iret jM193 jq193_75 (fun z => absurd z (by decide)) (k σ4 s4 (jb_rn rfl))
    · have h3 := jo_n c3 h1
      refine jw_iconst (p := 11) rfl jM147 jq147_10 ?_
      refine jw_goto jM147 jq147_11 ?_
      refine jw_iret jM147 jq147_15 (fun _ => Or.inr rfl) ?_
      show jb_w (d + 12) 184 6 [some (jb_v l1)] [(jb_v 1)] σ (jb_k (d + 13) 193 2 [some (.ref 92), some (jb_v l1), some (jb_v l2), some (jb_v l3), none, none, none] [(.ref 92)] Q)
      refine jw_iret jM184 jq184_6 (fun _ => Or.inr rfl) ?_
      show jb_w (d + 13) 193 5 [some (.ref 92), some (jb_v l1), some (jb_v l2), some (jb_v l3), none, none, none] [(jb_v 1), (.ref 92)] σ Q
      refine jw_if (p := 8) rfl jM193 jq193_5 (jc_eq (jb_rn rfl) jb_r0) (fun z => absurd z (by decide)) (fun _ => ?_)
      refine jiL2 (p := 9) rfl jM193 jq193_8 ?_
      refine jw_iconst (p := 10) rfl jM193 jq193_9 ?_
      refine jw_bipush (p := 12) rfl jM193 jq193_10 (by decide) ?_
      refine jw_callS [(jb_v l2), (jb_v 0), (jb_v 31)] jM193 jq193_12 rfl rfl rfl jM147 rfl rfl ?_
      show jb_w (d + 12) 147 0 [some (jb_v l2), some (jb_v 0), some (jb_v 31)] [] σ (jb_k (d + 13) 193 12 [some (.ref 92), some (jb_v l1), some (jb_v l2), some (jb_v l3), none, none, none] [(.ref 92)] Q)
      refine jiL0 (p := 1) rfl jM147 jq147_0 ?_
      refine jiL1 (p := 2) rfl jM147 jq147_1 ?_
      refine jw_ic (p := 5) rfl jM147 jq147_2 (jc_lt hl2 (jb_rn rfl)) (fun c5 => ?_) (fun c5 => ?_)
      · have h5 := jo_p c5 h3
        refine jw_iconst (p := 15) rfl jM147 jq147_14 ?_
        refine jw_iret jM147 jq147_15 (fun _ => Or.inl rfl) ?_
        show jb_w (d + 13) 193 15 [some (.ref 92), some (jb_v l1), some (jb_v l2), some (jb_v l3), none, none, none] [(jb_v 0), (.ref 92)] σ Q
        refine jw_if (p := 18) rfl jM193 jq193_15 (jc_eq (jb_rn rfl) jb_r0) (fun _ => ?_) (fun z => absurd (by decide) z)
        refine jw_iconst (p := 30) rfl jM193 jq193_29 ?_
        refine jw_goto jM193 jq193_30 ?_
        refine jg_putI (p := 67) (i := 0) rfl jM193 jq193_64 rfl (jo_92 s.1) (Or.inl jz_11_0) s (by decide) (by decide) (jb_rn rfl) ?_
        intro σ6 s6
        refine jaL0 (p := 68) rfl jM193 jq193_67 ?_
        refine jg_getI (p := 71) (i := 0) rfl jM193 jq193_68 rfl (jo_92 s6.1) jn_11_0 s6 (by decide) (by decide) jg_uH ?_
        refine jw_if (p := 74) rfl jM193 jq193_71 (jc_le (jb_rn rfl) jb_r0) (fun z => absurd z (by decide)) (fun _ => ?_)
        refine jw_iconst (p := 75) rfl jM193 jq193_74 ?_
        cases h5
        exact jw_iret jM193 jq193_75 (fun z => absurd z (by decide)) (k σ6 s6 (jb_rn rfl))
      · have h5 := jo_n c5 h3
        refine jiL0 (p := 6) rfl jM147 jq147_5 ?_
        refine jiL2 (p := 7) rfl jM147 jq147_6 ?_
        refine jw_ic (p := 10) rfl jM147 jq147_7 (jc_gt hl2 (jb_rn rfl)) (fun c7 => ?_) (fun c7 => ?_)
        · have h7 := jo_p c7 h5
          refine jw_iconst (p := 15) rfl jM147 jq147_14 ?_
          refine jw_iret jM147 jq147_15 (fun _ => Or.inl rfl) ?_
          show jb_w (d + 13) 193 15 [some (.ref 92), some (jb_v l1), some (jb_v l2), some (jb_v l3), none, none, none] [(jb_v 0), (.ref 92)] σ Q
          refine jw_if (p := 18) rfl jM193 jq193_15 (jc_eq (jb_rn rfl) jb_r0) (fun _ => ?_) (fun z => absurd (by decide) z)
          refine jw_iconst (p := 30) rfl jM193 jq193_29 ?_
          refine jw_goto jM193 jq193_30 ?_
          refine jg_putI (p := 67) (i := 0) rfl jM193 jq193_64 rfl (jo_92 s.1) (Or.inl jz_11_0) s (by decide) (by decide) (jb_rn rfl) ?_
          intro σ8 s8
          refine jaL0 (p := 68) rfl jM193 jq193_67 ?_
          refine jg_getI (p := 71) (i := 0) rfl jM193 jq193_68 rfl (jo_92 s8.1) jn_11_0 s8 (by decide) (by decide) jg_uH ?_
          refine jw_if (p := 74) rfl jM193 jq193_71 (jc_le (jb_rn rfl) jb_r0) (fun z => absurd z (by decide)) (fun _ => ?_)
          refine jw_iconst (p := 75) rfl jM193 jq193_74 ?_
          cases h7
          exact jw_iret jM193 jq193_75 (fun z => absurd z (by decide)) (k σ8 s8 (jb_rn rfl))
        · have h7 := jo_n c7 h5
          refine jw_iconst (p := 11) rfl jM147 jq147_10 ?_
          refine jw_goto jM147 jq147_11 ?_
          refine jw_iret jM147 jq147_15 (fun _ => Or.inr rfl) ?_
          show jb_w (d + 13) 193 15 [some (.ref 92), some (jb_v l1), some (jb_v l2), some (jb_v l3), none, none, none] [(jb_v 1), (.ref 92)] σ Q
          refine jw_if (p := 18) rfl jM193 jq193_15 (jc_eq (jb_rn rfl) jb_r0) (fun z => absurd z (by decide)) (fun _ => ?_)
          refine jiL3 (p := 19) rfl jM193 jq193_18 ?_
          refine jw_iconst (p := 20) rfl jM193 jq193_19 ?_
          refine jw_sipush (p := 23) rfl jM193 jq193_20 (by decide) ?_
          refine jw_callS [(jb_v l3), (jb_v 0), (jb_v 999)] jM193 jq193_23 rfl rfl rfl jM147 rfl rfl ?_
          show jb_w (d + 12) 147 0 [some (jb_v l3), some (jb_v 0), some (jb_v 999)] [] σ (jb_k (d + 13) 193 23 [some (.ref 92), some (jb_v l1), some (jb_v l2), some (jb_v l3), none, none, none] [(.ref 92)] Q)
          refine jiL0 (p := 1) rfl jM147 jq147_0 ?_
          refine jiL1 (p := 2) rfl jM147 jq147_1 ?_
          refine jw_ic (p := 5) rfl jM147 jq147_2 (jc_lt hl3 (jb_rn rfl)) (fun c9 => ?_) (fun c9 => ?_)
          · have h9 := jo_p c9 h7
            refine jw_iconst (p := 15) rfl jM147 jq147_14 ?_
            refine jw_iret jM147 jq147_15 (fun _ => Or.inl rfl) ?_
            show jb_w (d + 13) 193 26 [some (.ref 92), some (jb_v l1), some (jb_v l2), some (jb_v l3), none, none, none] [(jb_v 0), (.ref 92)] σ Q
            refine jw_if (p := 29) rfl jM193 jq193_26 (jc_ne (jb_rn rfl) jb_r0) (fun z => absurd z (by decide)) (fun _ => ?_)
            refine jw_iconst (p := 30) rfl jM193 jq193_29 ?_
            refine jw_goto jM193 jq193_30 ?_
            refine jg_putI (p := 67) (i := 0) rfl jM193 jq193_64 rfl (jo_92 s.1) (Or.inl jz_11_0) s (by decide) (by decide) (jb_rn rfl) ?_
            intro σ10 s10
            refine jaL0 (p := 68) rfl jM193 jq193_67 ?_
            refine jg_getI (p := 71) (i := 0) rfl jM193 jq193_68 rfl (jo_92 s10.1) jn_11_0 s10 (by decide) (by decide) jg_uH ?_
            refine jw_if (p := 74) rfl jM193 jq193_71 (jc_le (jb_rn rfl) jb_r0) (fun z => absurd z (by decide)) (fun _ => ?_)
            refine jw_iconst (p := 75) rfl jM193 jq193_74 ?_
            cases h9
            exact jw_iret jM193 jq193_75 (fun z => absurd z (by decide)) (k σ10 s10 (jb_rn rfl))
          · have h9 := jo_n c9 h7
            refine jiL0 (p := 6) rfl jM147 jq147_5 ?_
            refine jiL2 (p := 7) rfl jM147 jq147_6 ?_
            refine jw_ic (p := 10) rfl jM147 jq147_7 (jc_gt hl3 (jb_rn rfl)) (fun c11 => ?_) (fun c11 => ?_)
            · have h11 := jo_p c11 h9
              refine jw_iconst (p := 15) rfl jM147 jq147_14 ?_
              refine jw_iret jM147 jq147_15 (fun _ => Or.inl rfl) ?_
              show jb_w (d + 13) 193 26 [some (.ref 92), some (jb_v l1), some (jb_v l2), some (jb_v l3), none, none, none] [(jb_v 0), (.ref 92)] σ Q
              refine jw_if (p := 29) rfl jM193 jq193_26 (jc_ne (jb_rn rfl) jb_r0) (fun z => absurd z (by decide)) (fun _ => ?_)
              refine jw_iconst (p := 30) rfl jM193 jq193_29 ?_
              refine jw_goto jM193 jq193_30 ?_
              refine jg_putI (p := 67) (i := 0) rfl jM193 jq193_64 rfl (jo_92 s.1) (Or.inl jz_11_0) s (by decide) (by decide) (jb_rn rfl) ?_
              intro σ12 s12
              refine jaL0 (p := 68) rfl jM193 jq193_67 ?_
              refine jg_getI (p := 71) (i := 0) rfl jM193 jq193_68 rfl (jo_92 s12.1) jn_11_0 s12 (by decide) (by decide) jg_uH ?_
              refine jw_if (p := 74) rfl jM193 jq193_71 (jc_le (jb_rn rfl) jb_r0) (fun z => absurd z (by decide)) (fun _ => ?_)
              refine jw_iconst (p := 75) rfl jM193 jq193_74 ?_
              cases h11
              exact jw_iret jM193 jq193_75 (fun z => absurd z (by decide)) (k σ12 s12 (jb_rn rfl))
            · have h11 := jo_n c11 h9
              refine jw_iconst (p := 11) rfl jM147 jq147_10 ?_
              refine jw_goto jM147 jq147_11 ?_
              refine jw_iret jM147 jq147_15 (fun _ => Or.inr rfl) ?_
              show jb_w (d + 13) 193 26 [some (.ref 92), some (jb_v l1), some (jb_v l2), some (jb_v l3), none, none, none] [(jb_v 1), (.ref 92)] σ Q
              refine jw_if (p := 29) rfl jM193 jq193_26 (jc_ne (jb_rn rfl) jb_r0) (fun _ => ?_) (fun z => absurd (by decide) z)
              refine jaL0 (p := 34) rfl jM193 jq193_33 ?_
              refine jg_getI (p := 37) (i := 7) rfl jM193 jq193_34 rfl (jo_92 s.1) jn_11_7 s (by decide) (by decide) rfl ?_
              refine jw_if (p := 40) rfl jM193 jq193_37 (jc_ne (s.r _ _) jb_r0) (fun c13 => ?_) (fun c13 => ?_)
              · have h13 := jo_n c13 h11
                refine jw_iconst (p := 60) rfl jM193 jq193_59 ?_
                refine jw_goto jM193 jq193_60 ?_
                refine jg_putI (p := 67) (i := 0) rfl jM193 jq193_64 rfl (jo_92 s.1) (Or.inl jz_11_0) s (by decide) (by decide) (jb_rn rfl) ?_
                intro σ14 s14
                refine jaL0 (p := 68) rfl jM193 jq193_67 ?_
                refine jg_getI (p := 71) (i := 0) rfl jM193 jq193_68 rfl (jo_92 s14.1) jn_11_0 s14 (by decide) (by decide) jg_uH ?_
                refine jw_if (p := 74) rfl jM193 jq193_71 (jc_le (jb_rn rfl) jb_r0) (fun z => absurd z (by decide)) (fun _ => ?_)
                refine jw_iconst (p := 75) rfl jM193 jq193_74 ?_
                cases h13
                exact jw_iret jM193 jq193_75 (fun z => absurd z (by decide)) (k σ14 s14 (jb_rn rfl))
              · have h13 := jo_p (Decidable.byContradiction c13) h11
                refine jaL0 (p := 41) rfl jM193 jq193_40 ?_
                refine jw_getP (p := 44) (i := 23) (q := 107) rfl jM193 jq193_41 rfl (jo_92 s.1) je_11_23 (jp_92_23 s.1) ?_
                refine jiL1 (p := 45) rfl jM193 jq193_44 ?_
                obtain ⟨c15, h15⟩ := jo_i h13
                refine jg_bald (p := 46) rfl jM193 jq193_45 (ja_107 s.1) c15.1 c15.2 s (by decide) rfl ?_
                refine jw_if (p := 49) rfl jM193 jq193_46 (jc_eq (s.r _ _) jb_r0) (fun c16 => ?_) (fun c16 => ?_)
                · have h16 := jo_p c16 h15
                  refine jw_iconst (p := 60) rfl jM193 jq193_59 ?_
                  refine jw_goto jM193 jq193_60 ?_
                  refine jg_putI (p := 67) (i := 0) rfl jM193 jq193_64 rfl (jo_92 s.1) (Or.inl jz_11_0) s (by decide) (by decide) (jb_rn rfl) ?_
                  intro σ17 s17
                  refine jaL0 (p := 68) rfl jM193 jq193_67 ?_
                  refine jg_getI (p := 71) (i := 0) rfl jM193 jq193_68 rfl (jo_92 s17.1) jn_11_0 s17 (by decide) (by decide) jg_uH ?_
                  refine jw_if (p := 74) rfl jM193 jq193_71 (jc_le (jb_rn rfl) jb_r0) (fun z => absurd z (by decide)) (fun _ => ?_)
                  refine jw_iconst (p := 75) rfl jM193 jq193_74 ?_
                  cases h16
                  exact jw_iret jM193 jq193_75 (fun z => absurd z (by decide)) (k σ17 s17 (jb_rn rfl))
                · have h16 := jo_n c16 h15
                  refine jaL0 (p := 50) rfl jM193 jq193_49 ?_
                  refine jg_getI (p := 53) (i := 12) rfl jM193 jq193_50 rfl (jo_92 s.1) jn_11_12 s (by decide) (by decide) rfl ?_
                  refine jw_sipush (p := 56) rfl jM193 jq193_53 (by decide) ?_
                  refine jw_ic (p := 59) rfl jM193 jq193_56 (jc_lt (s.r _ _) (jb_rn rfl)) (fun c18 => ?_) (fun c18 => ?_)
                  · have h18 := jo_p c18 h16
                    refine jw_iconst (p := 64) rfl jM193 jq193_63 ?_
                    refine jg_putI (p := 67) (i := 0) rfl jM193 jq193_64 rfl (jo_92 s.1) (Or.inl jz_11_0) s (by decide) (by decide) (jb_rn rfl) ?_
                    intro σ19 s19
                    refine jaL0 (p := 68) rfl jM193 jq193_67 ?_
                    refine jg_getI (p := 71) (i := 0) rfl jM193 jq193_68 rfl (jo_92 s19.1) jn_11_0 s19 (by decide) (by decide) jg_uH ?_
                    refine jw_if (p := 74) rfl jM193 jq193_71 (jc_le (jb_rn rfl) jb_r0) (fun _ => ?_) (fun z => absurd (by decide) z)
                    refine jaL0 (p := 77) rfl jM193 jq193_76 ?_
                    refine jiL1 (p := 78) rfl jM193 jq193_77 ?_
                    refine jiL2 (p := 79) rfl jM193 jq193_78 ?_
                    refine jw_callV [(jb_v l1), (jb_v l2)] jM193 jq193_79 rfl rfl (jo_92 s19.1) rfl jM190 rfl rfl ?_
                    obtain ⟨x20, b21, h21⟩ := jo_b h18
                    refine jf190 hl1 hl2 b21 (fun σ20 s20 r20 => ?_) σ19 s19
                    show jb_w (d + 13) 193 82 [some (.ref 92), some (jb_v l1), some (jb_v l2), some (jb_v l3), none, none, none] [(jb_v (x20.2))] σ20 Q
                    refine jiS4 (p := 84) rfl jM193 jq193_82 ?_
                    refine jiL4 (p := 86) rfl jM193 jq193_84 ?_
                    refine jw_if (p := 89) rfl jM193 jq193_86 (jc_eq r20 jb_r0) (fun c22 => ?_) (fun c22 => ?_)
                    · have h22 := jo_p c22 h21
                      refine jaL0 (p := 93) rfl jM193 jq193_92 ?_
                      refine jiL2 (p := 94) rfl jM193 jq193_93 ?_
                      refine jw_callV [(jb_v l2)] jM193 jq193_94 rfl rfl (jo_92 s20.1) rfl jM175 rfl rfl ?_
                      obtain ⟨x23, b24, h24⟩ := jo_b h22
                      refine jf175 hl2 b24 (fun σ23 s23 => ?_) σ20 s20
                      show jb_w (d + 13) 193 97 [some (.ref 92), some (jb_v l1), some (jb_v l2), some (jb_v l3), some (jb_v (x20.2)), none, none] [] σ23 Q
                      exact (jf193_s jo_N).1 hl1 hl2 hl3 r20 h24 k σ23 s23
                    · have h22 := jo_n c22 h21
                      refine jiL4 (p := 91) rfl jM193 jq193_89 ?_
                      cases h22
                      exact jw_iret jM193 jq193_91 (fun z => absurd z (by decide)) (k σ20 s20 r20)
                  · have h18 := jo_n c18 h16
                    refine jw_iconst (p := 60) rfl jM193 jq193_59 ?_
                    refine jw_goto jM193 jq193_60 ?_
                    refine jg_putI (p := 67) (i := 0) rfl jM193 jq193_64 rfl (jo_92 s.1) (Or.inl jz_11_0) s (by decide) (by decide) (jb_rn rfl) ?_
                    intro σ25 s25
                    refine jaL0 (p := 68) rfl jM193 jq193_67 ?_
                    refine jg_getI (p := 71) (i := 0) rfl jM193 jq193_68 rfl (jo_92 s25.1) jn_11_0 s25 (by decide) (by decide) jg_uH ?_
                    refine jw_if (p := 74) rfl jM193 jq193_71 (jc_le (jb_rn rfl) jb_r0) (fun z => absurd z (by decide)) (fun _ => ?_)
                    refine jw_iconst (p := 75) rfl jM193 jq193_74 ?_
                    cases h18
                    exact jw_iret jM193 jq193_75 (fun z => absurd z (by decide)) (k σ25 s25 (jb_rn rfl))
-- 194 take need 13
def fo194 (G : jg_G) (l1 : Int) (l2 : Int) : Option (jg_G × Int) := if l1 < 0 then (some (jg_u G 92 0 1, 0)) else (if 3 < l1 then (some (jg_u G 92 0 1, 0)) else (if l2 < 0 then (some (jg_u G 92 0 1, 0)) else (if 31 < l2 then (some (jg_u G 92 0 1, 0)) else (if G 92 7 = 0 then (if 0 ≤ l1 ∧ l1 < 4 then if G 107 l1 = 0 then (some (jg_u G 92 0 2, 0)) else (if G 92 12 < 200 then ((fo190 (jg_u G 92 0 0) l1 l2).bind fun x16 => if x16.2 = 0 then ((fo175 (x16.1) l2).bind fun x19 => if (x19.1) 92 7 = 0 then (if 0 ≤ (((x19.1) 92 29) - 1) ∧ (((x19.1) 92 29) - 1) < 25 then if 0 ≤ ((x19.1) 112 (((x19.1) 92 29) - 1)) ∧ ((x19.1) 112 (((x19.1) 92 29) - 1)) < 24 then jo_l (fr_ro (x19.1) ((x19.1) 112 (((x19.1) 92 29) - 1))) fun x24 => if 0 ≤ x24 ∧ x24 < 4554 then if 0 ≤ (x19.1) 93 (67 * x24 + 2) ∧ (x19.1) 93 (67 * x24 + 2) ≤ 32 then jo_l (fr_pl (x19.1) x24 l2) fun x28 => if 0 ≤ x28 then (if 0 ≤ (((67 * x24) + 4) + (2 * x28)) ∧ (((67 * x24) + 4) + (2 * x28)) < 305118 then (fo192 (x19.1) l1 l2 (-1)).bind fun x32 => (fo183 (x32.1) ).bind fun x34 => if (x34.1) 92 7 = 0 then (some (x34.1, (x19.1) 93 (((67 * x24) + 4) + (2 * x28)))) else (some (x34.1, (-4))) else none) else (some (x19.1, (-1))) else none else none else none else none) else (some (x19.1, (-4)))) else (some (x16.1, x16.2))) else (some (jg_u G 92 0 2, 0))) else none) else (some (jg_u G 92 0 2, 0))))))
theorem jf194 {d : Nat} {σ0 : ib_H} {Q : ib_O → Prop} {G : jg_G} {l1 : Int} {l2 : Int} (hl1 : jb_r l1) (hl2 : jb_r l2) {r : jg_G × Int} (h : fo194 G l1 l2 = some r) (k : ∀ σ, jg_S σ0 r.1 σ → jb_r r.2 → Q (.inl (some (jb_v r.2)), σ)) : jg_W σ0 G (d + 13) 194 0 [some (.ref 92), some (jb_v l1), some (jb_v l2), none, none, none, none] [] Q := by
  intro σ s
  unfold fo194 at h
  refine jaL0 (p := 1) rfl jM194 jq194_0 ?_
  refine jiL1 (p := 2) rfl jM194 jq194_1 ?_
  refine jw_callS [(jb_v l1)] jM194 jq194_2 rfl rfl rfl jM184 rfl rfl ?_
  show jb_w (d + 12) 184 0 [some (jb_v l1)] [] σ (jb_k (d + 13) 194 2 [some (.ref 92), some (jb_v l1), some (jb_v l2), none, none, none, none] [(.ref 92)] Q)
  refine jiL0 (p := 1) rfl jM184 jq184_0 ?_
  refine jw_iconst (p := 2) rfl jM184 jq184_1 ?_
  refine jw_iconst (p := 3) rfl jM184 jq184_2 ?_
  refine jw_callS [(jb_v l1), (jb_v 0), (jb_v 3)] jM184 jq184_3 rfl rfl rfl jM147 rfl rfl ?_
  show jb_w (d + 11) 147 0 [some (jb_v l1), some (jb_v 0), some (jb_v 3)] [] σ (jb_k (d + 12) 184 3 [some (jb_v l1)] [] (jb_k (d + 13) 194 2 [some (.ref 92), some (jb_v l1), some (jb_v l2), none, none, none, none] [(.ref 92)] Q))
  refine jiL0 (p := 1) rfl jM147 jq147_0 ?_
  refine jiL1 (p := 2) rfl jM147 jq147_1 ?_
  refine jw_ic (p := 5) rfl jM147 jq147_2 (jc_lt hl1 (jb_rn rfl)) (fun c1 => ?_) (fun c1 => ?_)
  · have h1 := jo_p c1 h
    refine jw_iconst (p := 15) rfl jM147 jq147_14 ?_
    refine jw_iret jM147 jq147_15 (fun _ => Or.inl rfl) ?_
    show jb_w (d + 12) 184 6 [some (jb_v l1)] [(jb_v 0)] σ (jb_k (d + 13) 194 2 [some (.ref 92), some (jb_v l1), some (jb_v l2), none, none, none, none] [(.ref 92)] Q)
    refine jw_iret jM184 jq184_6 (fun _ => Or.inl rfl) ?_
    show jb_w (d + 13) 194 5 [some (.ref 92), some (jb_v l1), some (jb_v l2), none, none, none, none] [(jb_v 0), (.ref 92)] σ Q
    refine jw_if (p := 8) rfl jM194 jq194_5 (jc_eq (jb_rn rfl) jb_r0) (fun _ => ?_) (fun z => absurd (by decide) z)
    refine jw_iconst (p := 19) rfl jM194 jq194_18 ?_
    refine jw_goto jM194 jq194_19 ?_
    refine jg_putI (p := 56) (i := 0) rfl jM194 jq194_53 rfl (jo_92 s.1) (Or.inl jz_11_0) s (by decide) (by decide) (jb_rn rfl) ?_
    intro σ2 s2
    refine jaL0 (p := 57) rfl jM194 jq194_56 ?_
    refine jg_getI (p := 60) (i := 0) rfl jM194 jq194_57 rfl (jo_92 s2.1) jn_11_0 s2 (by decide) (by decide) jg_uH ?_
    refine jw_if (p := 63) rfl jM194 jq194_60 (jc_le (jb_rn rfl) jb_r0) (fun z => absurd z (by decide)) (fun _ => ?_)
    refine jw_iconst (p := 64) rfl jM194 jq194_63 ?_
    cases h1
    exact jw_iret jM194 jq194_64 (fun z => absurd z (by decide)) (k σ2 s2 (jb_rn rfl))
  · have h1 := jo_n c1 h
    refine jiL0 (p := 6) rfl jM147 jq147_5 ?_
    refine jiL2 (p := 7) rfl jM147 jq147_6 ?_
    refine jw_ic (p := 10) rfl jM147 jq147_7 (jc_gt hl1 (jb_rn rfl)) (fun c3 => ?_) (fun c3 => ?_)
    · have h3 := jo_p c3 h1
      refine jw_iconst (p := 15) rfl jM147 jq147_14 ?_
      refine jw_iret jM147 jq147_15 (fun _ => Or.inl rfl) ?_
      show jb_w (d + 12) 184 6 [some (jb_v l1)] [(jb_v 0)] σ (jb_k (d + 13) 194 2 [some (.ref 92), some (jb_v l1), some (jb_v l2), none, none, none, none] [(.ref 92)] Q)
      refine jw_iret jM184 jq184_6 (fun _ => Or.inl rfl) ?_
      show jb_w (d + 13) 194 5 [some (.ref 92), some (jb_v l1), some (jb_v l2), none, none, none, none] [(jb_v 0), (.ref 92)] σ Q
      refine jw_if (p := 8) rfl jM194 jq194_5 (jc_eq (jb_rn rfl) jb_r0) (fun _ => ?_) (fun z => absurd (by decide) z)
      refine jw_iconst (p := 19) rfl jM194 jq194_18 ?_
      refine jw_goto jM194 jq194_19 ?_
      refine jg_putI (p := 56) (i := 0) rfl jM194 jq194_53 rfl (jo_92 s.1) (Or.inl jz_11_0) s (by decide) (by decide) (jb_rn rfl) ?_
      intro σ4 s4
      refine jaL0 (p := 57) rfl jM194 jq194_56 ?_
      refine jg_getI (p := 60) (i := 0) rfl jM194 jq194_57 rfl (jo_92 s4.1) jn_11_0 s4 (by decide) (by decide) jg_uH ?_
      refine jw_if (p := 63) rfl jM194 jq194_60 (jc_le (jb_rn rfl) jb_r0) (fun z => absurd z (by decide)) (fun _ => ?_)
      refine jw_iconst (p := 64) rfl jM194 jq194_63 ?_
      cases h3
      exact jw_iret jM194 jq194_64 (fun z => absurd z (by decide)) (k σ4 s4 (jb_rn rfl))
    · have h3 := jo_n c3 h1
      refine jw_iconst (p := 11) rfl jM147 jq147_10 ?_
      refine jw_goto jM147 jq147_11 ?_
      refine jw_iret jM147 jq147_15 (fun _ => Or.inr rfl) ?_
      show jb_w (d + 12) 184 6 [some (jb_v l1)] [(jb_v 1)] σ (jb_k (d + 13) 194 2 [some (.ref 92), some (jb_v l1), some (jb_v l2), none, none, none, none] [(.ref 92)] Q)
      refine jw_iret jM184 jq184_6 (fun _ => Or.inr rfl) ?_
      show jb_w (d + 13) 194 5 [some (.ref 92), some (jb_v l1), some (jb_v l2), none, none, none, none] [(jb_v 1), (.ref 92)] σ Q
      refine jw_if (p := 8) rfl jM194 jq194_5 (jc_eq (jb_rn rfl) jb_r0) (fun z => absurd z (by decide)) (fun _ => ?_)
      refine jiL2 (p := 9) rfl jM194 jq194_8 ?_
      refine jw_iconst (p := 10) rfl jM194 jq194_9 ?_
      refine jw_bipush (p := 12) rfl jM194 jq194_10 (by decide) ?_
      refine jw_callS [(jb_v l2), (jb_v 0), (jb_v 31)] jM194 jq194_12 rfl rfl rfl jM147 rfl rfl ?_
      show jb_w (d + 12) 147 0 [some (jb_v l2), some (jb_v 0), some (jb_v 31)] [] σ (jb_k (d + 13) 194 12 [some (.ref 92), some (jb_v l1), some (jb_v l2), none, none, none, none] [(.ref 92)] Q)
      refine jiL0 (p := 1) rfl jM147 jq147_0 ?_
      refine jiL1 (p := 2) rfl jM147 jq147_1 ?_
      refine jw_ic (p := 5) rfl jM147 jq147_2 (jc_lt hl2 (jb_rn rfl)) (fun c5 => ?_) (fun c5 => ?_)
      · have h5 := jo_p c5 h3
        refine jw_iconst (p := 15) rfl jM147 jq147_14 ?_
        refine jw_iret jM147 jq147_15 (fun _ => Or.inl rfl) ?_
        show jb_w (d + 13) 194 15 [some (.ref 92), some (jb_v l1), some (jb_v l2), none, none, none, none] [(jb_v 0), (.ref 92)] σ Q
        refine jw_if (p := 18) rfl jM194 jq194_15 (jc_ne (jb_rn rfl) jb_r0) (fun z => absurd z (by decide)) (fun _ => ?_)
        refine jw_iconst (p := 19) rfl jM194 jq194_18 ?_
        refine jw_goto jM194 jq194_19 ?_
        refine jg_putI (p := 56) (i := 0) rfl jM194 jq194_53 rfl (jo_92 s.1) (Or.inl jz_11_0) s (by decide) (by decide) (jb_rn rfl) ?_
        intro σ6 s6
        refine jaL0 (p := 57) rfl jM194 jq194_56 ?_
        refine jg_getI (p := 60) (i := 0) rfl jM194 jq194_57 rfl (jo_92 s6.1) jn_11_0 s6 (by decide) (by decide) jg_uH ?_
        refine jw_if (p := 63) rfl jM194 jq194_60 (jc_le (jb_rn rfl) jb_r0) (fun z => absurd z (by decide)) (fun _ => ?_)
        refine jw_iconst (p := 64) rfl jM194 jq194_63 ?_
        cases h5
        exact jw_iret jM194 jq194_64 (fun z => absurd z (by decide)) (k σ6 s6 (jb_rn rfl))
      · have h5 := jo_n c5 h3
        refine jiL0 (p := 6) rfl jM147 jq147_5 ?_
        refine jiL2 (p := 7) rfl jM147 jq147_6 ?_
        refine jw_ic (p := 10) rfl jM147 jq147_7 (jc_gt hl2 (jb_rn rfl)) (fun c7 => ?_) (fun c7 => ?_)
        · have h7 := jo_p c7 h5
          refine jw_iconst (p := 15) rfl jM147 jq147_14 ?_
          refine jw_iret jM147 jq147_15 (fun _ => Or.inl rfl) ?_
          show jb_w (d + 13) 194 15 [some (.ref 92), some (jb_v l1), some (jb_v l2), none, none, none, none] [(jb_v 0), (.ref 92)] σ Q
          refine jw_if (p := 18) rfl jM194 jq194_15 (jc_ne (jb_rn rfl) jb_r0) (fun z => absurd z (by decide)) (fun _ => ?_)
          refine jw_iconst (p := 19) rfl jM194 jq194_18 ?_
          refine jw_goto jM194 jq194_19 ?_
          refine jg_putI (p := 56) (i := 0) rfl jM194 jq194_53 rfl (jo_92 s.1) (Or.inl jz_11_0) s (by decide) (by decide) (jb_rn rfl) ?_
          intro σ8 s8
          refine jaL0 (p := 57) rfl jM194 jq194_56 ?_
          refine jg_getI (p := 60) (i := 0) rfl jM194 jq194_57 rfl (jo_92 s8.1) jn_11_0 s8 (by decide) (by decide) jg_uH ?_
          refine jw_if (p := 63) rfl jM194 jq194_60 (jc_le (jb_rn rfl) jb_r0) (fun z => absurd z (by decide)) (fun _ => ?_)
          refine jw_iconst (p := 64) rfl jM194 jq194_63 ?_
          cases h7
          exact jw_iret jM194 jq194_64 (fun z => absurd z (by decide)) (k σ8 s8 (jb_rn rfl))
        · have h7 := jo_n c7 h5
          refine jw_iconst (p := 11) rfl jM147 jq147_10 ?_
          refine jw_goto jM147 jq147_11 ?_
          refine jw_iret jM147 jq147_15 (fun _ => Or.inr rfl) ?_
          show jb_w (d + 13) 194 15 [some (.ref 92), some (jb_v l1), some (jb_v l2), none, none, none, none] [(jb_v 1), (.ref 92)] σ Q
          refine jw_if (p := 18) rfl jM194 jq194_15 (jc_ne (jb_rn rfl) jb_r0) (fun _ => ?_) (fun z => absurd (by decide) z)
          refine jaL0 (p := 23) rfl jM194 jq194_22 ?_
          refine jg_getI (p := 26) (i := 7) rfl jM194 jq194_23 rfl (jo_92 s.1) jn_11_7 s (by decide) (by decide) rfl ?_
          refine jw_if (p := 29) rfl jM194 jq194_26 (jc_ne (s.r _ _) jb_r0) (fun c9 => ?_) (fun c9 => ?_)
          · have h9 := jo_n c9 h7
            refine jw_iconst (p := 49) rfl jM194 jq194_48 ?_
            refine jw_goto jM194 jq194_49 ?_
            refine jg_putI (p := 56) (i := 0) rfl jM194 jq194_53 rfl (jo_92 s.1) (Or.inl jz_11_0) s (by decide) (by decide) (jb_rn rfl) ?_
            intro σ10 s10
            refine jaL0 (p := 57) rfl jM194 jq194_56 ?_
            refine jg_getI (p := 60) (i := 0) rfl jM194 jq194_57 rfl (jo_92 s10.1) jn_11_0 s10 (by decide) (by decide) jg_uH ?_
            refine jw_if (p := 63) rfl jM194 jq194_60 (jc_le (jb_rn rfl) jb_r0) (fun z => absurd z (by decide)) (fun _ => ?_)
            refine jw_iconst (p := 64) rfl jM194 jq194_63 ?_
            cases h9
            exact jw_iret jM194 jq194_64 (fun z => absurd z (by decide)) (k σ10 s10 (jb_rn rfl))
          · have h9 := jo_p (Decidable.byContradiction c9) h7
            refine jaL0 (p := 30) rfl jM194 jq194_29 ?_
            refine jw_getP (p := 33) (i := 23) (q := 107) rfl jM194 jq194_30 rfl (jo_92 s.1) je_11_23 (jp_92_23 s.1) ?_
            refine jiL1 (p := 34) rfl jM194 jq194_33 ?_
            obtain ⟨c11, h11⟩ := jo_i h9
            refine jg_bald (p := 35) rfl jM194 jq194_34 (ja_107 s.1) c11.1 c11.2 s (by decide) rfl ?_
            refine jw_if (p := 38) rfl jM194 jq194_35 (jc_eq (s.r _ _) jb_r0) (fun c12 => ?_) (fun c12 => ?_)
            · have h12 := jo_p c12 h11
              refine jw_iconst (p := 49) rfl jM194 jq194_48 ?_
              refine jw_goto jM194 jq194_49 ?_
              refine jg_putI (p := 56) (i := 0) rfl jM194 jq194_53 rfl (jo_92 s.1) (Or.inl jz_11_0) s (by decide) (by decide) (jb_rn rfl) ?_
              intro σ13 s13
              refine jaL0 (p := 57) rfl jM194 jq194_56 ?_
              refine jg_getI (p := 60) (i := 0) rfl jM194 jq194_57 rfl (jo_92 s13.1) jn_11_0 s13 (by decide) (by decide) jg_uH ?_
              refine jw_if (p := 63) rfl jM194 jq194_60 (jc_le (jb_rn rfl) jb_r0) (fun z => absurd z (by decide)) (fun _ => ?_)
              refine jw_iconst (p := 64) rfl jM194 jq194_63 ?_
              cases h12
              exact jw_iret jM194 jq194_64 (fun z => absurd z (by decide)) (k σ13 s13 (jb_rn rfl))
            · have h12 := jo_n c12 h11
              refine jaL0 (p := 39) rfl jM194 jq194_38 ?_
              refine jg_getI (p := 42) (i := 12) rfl jM194 jq194_39 rfl (jo_92 s.1) jn_11_12 s (by decide) (by decide) rfl ?_
              refine jw_sipush (p := 45) rfl jM194 jq194_42 (by decide) ?_
              refine jw_ic (p := 48) rfl jM194 jq194_45 (jc_lt (s.r _ _) (jb_rn rfl)) (fun c14 => ?_) (fun c14 => ?_)
              · have h14 := jo_p c14 h12
                refine jw_iconst (p := 53) rfl jM194 jq194_52 ?_
                refine jg_putI (p := 56) (i := 0) rfl jM194 jq194_53 rfl (jo_92 s.1) (Or.inl jz_11_0) s (by decide) (by decide) (jb_rn rfl) ?_
                intro σ15 s15
                refine jaL0 (p := 57) rfl jM194 jq194_56 ?_
                refine jg_getI (p := 60) (i := 0) rfl jM194 jq194_57 rfl (jo_92 s15.1) jn_11_0 s15 (by decide) (by decide) jg_uH ?_
                refine jw_if (p := 63) rfl jM194 jq194_60 (jc_le (jb_rn rfl) jb_r0) (fun _ => ?_) (fun z => absurd (by decide) z)
                refine jaL0 (p := 66) rfl jM194 jq194_65 ?_
                refine jiL1 (p := 67) rfl jM194 jq194_66 ?_
                refine jiL2 (p := 68) rfl jM194 jq194_67 ?_
                refine jw_callV [(jb_v l1), (jb_v l2)] jM194 jq194_68 rfl rfl (jo_92 s15.1) rfl jM190 rfl rfl ?_
                obtain ⟨x16, b17, h17⟩ := jo_b h14
                refine jf190 hl1 hl2 b17 (fun σ16 s16 r16 => ?_) σ15 s15
                show jb_w (d + 13) 194 71 [some (.ref 92), some (jb_v l1), some (jb_v l2), none, none, none, none] [(jb_v (x16.2))] σ16 Q
                refine jiS3 (p := 72) rfl jM194 jq194_71 ?_
                refine jiL3 (p := 73) rfl jM194 jq194_72 ?_
                refine jw_if (p := 76) rfl jM194 jq194_73 (jc_eq r16 jb_r0) (fun c18 => ?_) (fun c18 => ?_)
                · have h18 := jo_p c18 h17
                  refine jaL0 (p := 79) rfl jM194 jq194_78 ?_
                  refine jiL2 (p := 80) rfl jM194 jq194_79 ?_
                  refine jw_callV [(jb_v l2)] jM194 jq194_80 rfl rfl (jo_92 s16.1) rfl jM175 rfl rfl ?_
                  obtain ⟨x19, b20, h20⟩ := jo_b h18
                  refine jf175 hl2 b20 (fun σ19 s19 => ?_) σ16 s16
                  show jb_w (d + 13) 194 83 [some (.ref 92), some (jb_v l1), some (jb_v l2), some (jb_v (x16.2)), none, none, none] [] σ19 Q
                  refine jaL0 (p := 84) rfl jM194 jq194_83 ?_
                  refine jg_getI (p := 87) (i := 7) rfl jM194 jq194_84 rfl (jo_92 s19.1) jn_11_7 s19 (by decide) (by decide) rfl ?_
                  refine jw_if (p := 90) rfl jM194 jq194_87 (jc_eq (s19.r _ _) jb_r0) (fun c21 => ?_) (fun c21 => ?_)
                  · have h21 := jo_p c21 h20
                    refine jaL0 (p := 94) rfl jM194 jq194_93 ?_
                    refine jaL0 (p := 95) rfl jM194 jq194_94 ?_
                    refine jw_getP (p := 98) (i := 28) (q := 112) rfl jM194 jq194_95 rfl (jo_92 s19.1) je_11_28 (jp_92_28 s19.1) ?_
                    refine jaL0 (p := 99) rfl jM194 jq194_98 ?_
                    refine jg_getI (p := 102) (i := 29) rfl jM194 jq194_99 rfl (jo_92 s19.1) jn_11_29 s19 (by decide) (by decide) rfl ?_
                    refine jw_iconst (p := 103) rfl jM194 jq194_102 ?_
                    refine jw_isub (p := 104) rfl jM194 jq194_103 ?_
                    obtain ⟨c22, h22⟩ := jo_i h21
                    refine jg_iald (p := 105) rfl jM194 jq194_104 (ja_112 s19.1) c22.1 c22.2 s19 (by decide) rfl ?_
                    refine jw_callV [(jb_v ((x19.1) 112 (((x19.1) 92 29) - 1)))] jM194 jq194_105 rfl rfl (jo_92 s19.1) rfl jM161 rfl rfl ?_
                    obtain ⟨c23, h23⟩ := jo_i h22
                    obtain ⟨x24, e25, h25⟩ := jo_lb h23
                    refine cs161 c23 (fun σ24 s24 r24 => ?_) σ19 s19
                    rw [e25] at r24 ⊢
                    show jb_w (d + 13) 194 108 [some (.ref 92), some (jb_v l1), some (jb_v l2), some (jb_v (x16.2)), none, none, none] [(jb_v x24)] σ24 Q
                    refine jiS4 (p := 110) rfl jM194 jq194_108 ?_
                    refine jaL0 (p := 111) rfl jM194 jq194_110 ?_
                    refine jiL4 (p := 113) rfl jM194 jq194_111 ?_
                    refine jiL2 (p := 114) rfl jM194 jq194_113 ?_
                    refine jw_callV [(jb_v x24), (jb_v l2)] jM194 jq194_114 rfl rfl (jo_92 s24.1) rfl jM158 rfl rfl ?_
                    obtain ⟨c26, h26⟩ := jo_i h25
                    obtain ⟨c27, h27⟩ := jo_i h26
                    obtain ⟨x28, e29, h29⟩ := jo_lb h27
                    refine cs158 c26 c27 hl2 (fun σ28 s28 r28 => ?_) σ24 s24
                    rw [e29] at r28 ⊢
                    show jb_w (d + 13) 194 117 [some (.ref 92), some (jb_v l1), some (jb_v l2), some (jb_v (x16.2)), some (jb_v x24), none, none] [(jb_v x28)] σ28 Q
                    refine jiS5 (p := 119) rfl jM194 jq194_117 ?_
                    refine jiL5 (p := 121) rfl jM194 jq194_119 ?_
                    refine jw_if (p := 124) rfl jM194 jq194_121 (jc_ge r28 jb_r0) (fun c30 => ?_) (fun c30 => ?_)
                    · have h30 := jo_p c30 h29
                      refine jaL0 (p := 127) rfl jM194 jq194_126 ?_
                      refine jiL4 (p := 129) rfl jM194 jq194_127 ?_
                      refine jiL5 (p := 131) rfl jM194 jq194_129 ?_
                      refine jw_callV [(jb_v x24), (jb_v x28)] jM194 jq194_131 rfl rfl (jo_92 s28.1) rfl jM152 rfl rfl ?_
                      show jb_w (d + 12) 152 0 [some (.ref 92), some (jb_v x24), some (jb_v x28)] [] σ28 (jb_k (d + 13) 194 131 [some (.ref 92), some (jb_v l1), some (jb_v l2), some (jb_v (x16.2)), some (jb_v x24), some (jb_v x28), none] [] Q)
                      refine jaL0 (p := 1) rfl jM152 jq152_0 ?_
                      refine jw_getP (p := 4) (i := 1) (q := 93) rfl jM152 jq152_1 rfl (jo_92 s28.1) je_11_1 (jp_92_1 s28.1) ?_
                      refine jw_bipush (p := 6) rfl jM152 jq152_4 (by decide) ?_
                      refine jiL1 (p := 7) rfl jM152 jq152_6 ?_
                      refine jw_imul (p := 8) rfl jM152 jq152_7 ?_
                      refine jw_iconst (p := 9) rfl jM152 jq152_8 ?_
                      refine jw_iadd (p := 10) rfl jM152 jq152_9 ?_
                      refine jw_iconst (p := 11) rfl jM152 jq152_10 ?_
                      refine jiL2 (p := 12) rfl jM152 jq152_11 ?_
                      refine jw_imul (p := 13) rfl jM152 jq152_12 ?_
                      refine jw_iadd (p := 14) rfl jM152 jq152_13 ?_
                      obtain ⟨c31, h31⟩ := jo_i h30
                      refine jg_iald (p := 15) rfl jM152 jq152_14 (ja_93 s28.1) c31.1 c31.2 s28 (by decide) rfl ?_
                      refine jw_iret jM152 jq152_15 (fun z => absurd z (by decide)) ?_
                      show jb_w (d + 13) 194 134 [some (.ref 92), some (jb_v l1), some (jb_v l2), some (jb_v (x16.2)), some (jb_v x24), some (jb_v x28), none] [(jb_v ((x19.1) 93 (((67 * x24) + 4) + (2 * x28))))] σ28 Q
                      refine jiS6 (p := 136) rfl jM194 jq194_134 ?_
                      refine jaL0 (p := 137) rfl jM194 jq194_136 ?_
                      refine jiL1 (p := 138) rfl jM194 jq194_137 ?_
                      refine jiL2 (p := 139) rfl jM194 jq194_138 ?_
                      refine jw_iconst (p := 140) rfl jM194 jq194_139 ?_
                      refine jw_callV [(jb_v l1), (jb_v l2), (jb_v (-1))] jM194 jq194_140 rfl rfl (jo_92 s28.1) rfl jM192 rfl rfl ?_
                      obtain ⟨x32, b33, h33⟩ := jo_b h31
                      refine jf192 hl1 hl2 (jb_rn rfl) b33 (fun σ32 s32 => ?_) σ28 s28
                      show jb_w (d + 13) 194 143 [some (.ref 92), some (jb_v l1), some (jb_v l2), some (jb_v (x16.2)), some (jb_v x24), some (jb_v x28), some (jb_v ((x19.1) 93 (((67 * x24) + 4) + (2 * x28))))] [] σ32 Q
                      refine jaL0 (p := 144) rfl jM194 jq194_143 ?_
                      refine jw_callV [] jM194 jq194_144 rfl rfl (jo_92 s32.1) rfl jM183 rfl rfl ?_
                      obtain ⟨x34, b35, h35⟩ := jo_b h33
                      refine jf183  b35 (fun σ34 s34 => ?_) σ32 s32
                      show jb_w (d + 13) 194 147 [some (.ref 92), some (jb_v l1), some (jb_v l2), some (jb_v (x16.2)), some (jb_v x24), some (jb_v x28), some (jb_v ((x19.1) 93 (((67 * x24) + 4) + (2 * x28))))] [] σ34 Q
                      refine jaL0 (p := 148) rfl jM194 jq194_147 ?_
                      refine jg_getI (p := 151) (i := 7) rfl jM194 jq194_148 rfl (jo_92 s34.1) jn_11_7 s34 (by decide) (by decide) rfl ?_
                      refine jw_if (p := 154) rfl jM194 jq194_151 (jc_eq (s34.r _ _) jb_r0) (fun c36 => ?_) (fun c36 => ?_)
                      · have h36 := jo_p c36 h35
                        refine jiL6 (p := 161) rfl jM194 jq194_159 ?_
                        cases h36
                        exact jw_iret jM194 jq194_161 (fun z => absurd z (by decide)) (k σ34 s34 (s19.r _ _))
                      · have h36 := jo_n c36 h35
                        refine jw_bipush (p := 156) rfl jM194 jq194_154 (by decide) ?_
                        refine jw_goto jM194 jq194_156 ?_
                        cases h36
                        exact jw_iret jM194 jq194_161 (fun z => absurd z (by decide)) (k σ34 s34 (jb_rn rfl))
                    · have h30 := jo_n c30 h29
                      refine jw_iconst (p := 125) rfl jM194 jq194_124 ?_
                      cases h30
                      exact jw_iret jM194 jq194_125 (fun z => absurd z (by decide)) (k σ28 s28 (jb_rn rfl))
                  · have h21 := jo_n c21 h20
                    refine jw_bipush (p := 92) rfl jM194 jq194_90 (by decide) ?_
                    cases h21
                    exact jw_iret jM194 jq194_92 (fun z => absurd z (by decide)) (k σ19 s19 (jb_rn rfl))
                · have h18 := jo_n c18 h17
                  refine jiL3 (p := 77) rfl jM194 jq194_76 ?_
                  cases h18
                  exact jw_iret jM194 jq194_77 (fun z => absurd z (by decide)) (k σ16 s16 r16)
              · have h14 := jo_n c14 h12
                refine jw_iconst (p := 49) rfl jM194 jq194_48 ?_
                refine jw_goto jM194 jq194_49 ?_
                refine jg_putI (p := 56) (i := 0) rfl jM194 jq194_53 rfl (jo_92 s.1) (Or.inl jz_11_0) s (by decide) (by decide) (jb_rn rfl) ?_
                intro σ37 s37
                refine jaL0 (p := 57) rfl jM194 jq194_56 ?_
                refine jg_getI (p := 60) (i := 0) rfl jM194 jq194_57 rfl (jo_92 s37.1) jn_11_0 s37 (by decide) (by decide) jg_uH ?_
                refine jw_if (p := 63) rfl jM194 jq194_60 (jc_le (jb_rn rfl) jb_r0) (fun z => absurd z (by decide)) (fun _ => ?_)
                refine jw_iconst (p := 64) rfl jM194 jq194_63 ?_
                cases h14
                exact jw_iret jM194 jq194_64 (fun z => absurd z (by decide)) (k σ37 s37 (jb_rn rfl))
-- 195 read need 13
def fo195 (G : jg_G) (l1 : Int) (l2 : Int) : Option (jg_G × Int) := if l1 < 0 then (some (jg_u G 92 0 1, 0)) else (if 3 < l1 then (some (jg_u G 92 0 1, 0)) else (if l2 < 0 then (some (jg_u G 92 0 1, 0)) else (if 31 < l2 then (some (jg_u G 92 0 1, 0)) else (if G 92 7 = 0 then (if 0 ≤ l1 ∧ l1 < 4 then if G 107 l1 = 0 then (some (jg_u G 92 0 2, 0)) else ((fo190 (jg_u G 92 0 0) l1 l2).bind fun x14 => if x14.2 = 0 then ((fo175 (x14.1) l2).bind fun x17 => if (x17.1) 92 7 = 0 then (if 0 ≤ (((x17.1) 92 29) - 1) ∧ (((x17.1) 92 29) - 1) < 25 then if 0 ≤ ((x17.1) 112 (((x17.1) 92 29) - 1)) ∧ ((x17.1) 112 (((x17.1) 92 29) - 1)) < 24 then jo_l (fr_ro (x17.1) ((x17.1) 112 (((x17.1) 92 29) - 1))) fun x22 => if 0 ≤ x22 ∧ x22 < 4554 then if 0 ≤ (x17.1) 93 (67 * x22 + 2) ∧ (x17.1) 93 (67 * x22 + 2) ≤ 32 then jo_l (fr_pl (x17.1) x22 l2) fun x26 => if 0 ≤ x26 then (if 0 ≤ (((67 * x22) + 4) + (2 * x26)) ∧ (((67 * x22) + 4) + (2 * x26)) < 305118 then some (x17.1, (x17.1) 93 (((67 * x22) + 4) + (2 * x26))) else none) else (some (x17.1, (-1))) else none else none else none else none) else (some (x17.1, (-4)))) else (some (x14.1, x14.2))) else none) else (some (jg_u G 92 0 2, 0))))))
theorem jf195 {d : Nat} {σ0 : ib_H} {Q : ib_O → Prop} {G : jg_G} {l1 : Int} {l2 : Int} (hl1 : jb_r l1) (hl2 : jb_r l2) {r : jg_G × Int} (h : fo195 G l1 l2 = some r) (k : ∀ σ, jg_S σ0 r.1 σ → jb_r r.2 → Q (.inl (some (jb_v r.2)), σ)) : jg_W σ0 G (d + 13) 195 0 [some (.ref 92), some (jb_v l1), some (jb_v l2), none, none, none] [] Q := by
  intro σ s
  unfold fo195 at h
  refine jaL0 (p := 1) rfl jM195 jq195_0 ?_
  refine jiL1 (p := 2) rfl jM195 jq195_1 ?_
  refine jw_callS [(jb_v l1)] jM195 jq195_2 rfl rfl rfl jM184 rfl rfl ?_
  show jb_w (d + 12) 184 0 [some (jb_v l1)] [] σ (jb_k (d + 13) 195 2 [some (.ref 92), some (jb_v l1), some (jb_v l2), none, none, none] [(.ref 92)] Q)
  refine jiL0 (p := 1) rfl jM184 jq184_0 ?_
  refine jw_iconst (p := 2) rfl jM184 jq184_1 ?_
  refine jw_iconst (p := 3) rfl jM184 jq184_2 ?_
  refine jw_callS [(jb_v l1), (jb_v 0), (jb_v 3)] jM184 jq184_3 rfl rfl rfl jM147 rfl rfl ?_
  show jb_w (d + 11) 147 0 [some (jb_v l1), some (jb_v 0), some (jb_v 3)] [] σ (jb_k (d + 12) 184 3 [some (jb_v l1)] [] (jb_k (d + 13) 195 2 [some (.ref 92), some (jb_v l1), some (jb_v l2), none, none, none] [(.ref 92)] Q))
  refine jiL0 (p := 1) rfl jM147 jq147_0 ?_
  refine jiL1 (p := 2) rfl jM147 jq147_1 ?_
  refine jw_ic (p := 5) rfl jM147 jq147_2 (jc_lt hl1 (jb_rn rfl)) (fun c1 => ?_) (fun c1 => ?_)
  · have h1 := jo_p c1 h
    refine jw_iconst (p := 15) rfl jM147 jq147_14 ?_
    refine jw_iret jM147 jq147_15 (fun _ => Or.inl rfl) ?_
    show jb_w (d + 12) 184 6 [some (jb_v l1)] [(jb_v 0)] σ (jb_k (d + 13) 195 2 [some (.ref 92), some (jb_v l1), some (jb_v l2), none, none, none] [(.ref 92)] Q)
    refine jw_iret jM184 jq184_6 (fun _ => Or.inl rfl) ?_
    show jb_w (d + 13) 195 5 [some (.ref 92), some (jb_v l1), some (jb_v l2), none, none, none] [(jb_v 0), (.ref 92)] σ Q
    refine jw_if (p := 8) rfl jM195 jq195_5 (jc_eq (jb_rn rfl) jb_r0) (fun _ => ?_) (fun z => absurd (by decide) z)
    refine jw_iconst (p := 19) rfl jM195 jq195_18 ?_
    refine jw_goto jM195 jq195_19 ?_
    refine jg_putI (p := 46) (i := 0) rfl jM195 jq195_43 rfl (jo_92 s.1) (Or.inl jz_11_0) s (by decide) (by decide) (jb_rn rfl) ?_
    intro σ2 s2
    refine jaL0 (p := 47) rfl jM195 jq195_46 ?_
    refine jg_getI (p := 50) (i := 0) rfl jM195 jq195_47 rfl (jo_92 s2.1) jn_11_0 s2 (by decide) (by decide) jg_uH ?_
    refine jw_if (p := 53) rfl jM195 jq195_50 (jc_le (jb_rn rfl) jb_r0) (fun z => absurd z (by decide)) (fun _ => ?_)
    refine jw_iconst (p := 54) rfl jM195 jq195_53 ?_
    cases h1
    exact jw_iret jM195 jq195_54 (fun z => absurd z (by decide)) (k σ2 s2 (jb_rn rfl))
  · have h1 := jo_n c1 h
    refine jiL0 (p := 6) rfl jM147 jq147_5 ?_
    refine jiL2 (p := 7) rfl jM147 jq147_6 ?_
    refine jw_ic (p := 10) rfl jM147 jq147_7 (jc_gt hl1 (jb_rn rfl)) (fun c3 => ?_) (fun c3 => ?_)
    · have h3 := jo_p c3 h1
      refine jw_iconst (p := 15) rfl jM147 jq147_14 ?_
      refine jw_iret jM147 jq147_15 (fun _ => Or.inl rfl) ?_
      show jb_w (d + 12) 184 6 [some (jb_v l1)] [(jb_v 0)] σ (jb_k (d + 13) 195 2 [some (.ref 92), some (jb_v l1), some (jb_v l2), none, none, none] [(.ref 92)] Q)
      refine jw_iret jM184 jq184_6 (fun _ => Or.inl rfl) ?_
      show jb_w (d + 13) 195 5 [some (.ref 92), some (jb_v l1), some (jb_v l2), none, none, none] [(jb_v 0), (.ref 92)] σ Q
      refine jw_if (p := 8) rfl jM195 jq195_5 (jc_eq (jb_rn rfl) jb_r0) (fun _ => ?_) (fun z => absurd (by decide) z)
      refine jw_iconst (p := 19) rfl jM195 jq195_18 ?_
      refine jw_goto jM195 jq195_19 ?_
      refine jg_putI (p := 46) (i := 0) rfl jM195 jq195_43 rfl (jo_92 s.1) (Or.inl jz_11_0) s (by decide) (by decide) (jb_rn rfl) ?_
      intro σ4 s4
      refine jaL0 (p := 47) rfl jM195 jq195_46 ?_
      refine jg_getI (p := 50) (i := 0) rfl jM195 jq195_47 rfl (jo_92 s4.1) jn_11_0 s4 (by decide) (by decide) jg_uH ?_
      refine jw_if (p := 53) rfl jM195 jq195_50 (jc_le (jb_rn rfl) jb_r0) (fun z => absurd z (by decide)) (fun _ => ?_)
      refine jw_iconst (p := 54) rfl jM195 jq195_53 ?_
      cases h3
      exact jw_iret jM195 jq195_54 (fun z => absurd z (by decide)) (k σ4 s4 (jb_rn rfl))
    · have h3 := jo_n c3 h1
      refine jw_iconst (p := 11) rfl jM147 jq147_10 ?_
      refine jw_goto jM147 jq147_11 ?_
      refine jw_iret jM147 jq147_15 (fun _ => Or.inr rfl) ?_
      show jb_w (d + 12) 184 6 [some (jb_v l1)] [(jb_v 1)] σ (jb_k (d + 13) 195 2 [some (.ref 92), some (jb_v l1), some (jb_v l2), none, none, none] [(.ref 92)] Q)
      refine jw_iret jM184 jq184_6 (fun _ => Or.inr rfl) ?_
      show jb_w (d + 13) 195 5 [some (.ref 92), some (jb_v l1), some (jb_v l2), none, none, none] [(jb_v 1), (.ref 92)] σ Q
      refine jw_if (p := 8) rfl jM195 jq195_5 (jc_eq (jb_rn rfl) jb_r0) (fun z => absurd z (by decide)) (fun _ => ?_)
      refine jiL2 (p := 9) rfl jM195 jq195_8 ?_
      refine jw_iconst (p := 10) rfl jM195 jq195_9 ?_
      refine jw_bipush (p := 12) rfl jM195 jq195_10 (by decide) ?_
      refine jw_callS [(jb_v l2), (jb_v 0), (jb_v 31)] jM195 jq195_12 rfl rfl rfl jM147 rfl rfl ?_
      show jb_w (d + 12) 147 0 [some (jb_v l2), some (jb_v 0), some (jb_v 31)] [] σ (jb_k (d + 13) 195 12 [some (.ref 92), some (jb_v l1), some (jb_v l2), none, none, none] [(.ref 92)] Q)
      refine jiL0 (p := 1) rfl jM147 jq147_0 ?_
      refine jiL1 (p := 2) rfl jM147 jq147_1 ?_
      refine jw_ic (p := 5) rfl jM147 jq147_2 (jc_lt hl2 (jb_rn rfl)) (fun c5 => ?_) (fun c5 => ?_)
      · have h5 := jo_p c5 h3
        refine jw_iconst (p := 15) rfl jM147 jq147_14 ?_
        refine jw_iret jM147 jq147_15 (fun _ => Or.inl rfl) ?_
        show jb_w (d + 13) 195 15 [some (.ref 92), some (jb_v l1), some (jb_v l2), none, none, none] [(jb_v 0), (.ref 92)] σ Q
        refine jw_if (p := 18) rfl jM195 jq195_15 (jc_ne (jb_rn rfl) jb_r0) (fun z => absurd z (by decide)) (fun _ => ?_)
        refine jw_iconst (p := 19) rfl jM195 jq195_18 ?_
        refine jw_goto jM195 jq195_19 ?_
        refine jg_putI (p := 46) (i := 0) rfl jM195 jq195_43 rfl (jo_92 s.1) (Or.inl jz_11_0) s (by decide) (by decide) (jb_rn rfl) ?_
        intro σ6 s6
        refine jaL0 (p := 47) rfl jM195 jq195_46 ?_
        refine jg_getI (p := 50) (i := 0) rfl jM195 jq195_47 rfl (jo_92 s6.1) jn_11_0 s6 (by decide) (by decide) jg_uH ?_
        refine jw_if (p := 53) rfl jM195 jq195_50 (jc_le (jb_rn rfl) jb_r0) (fun z => absurd z (by decide)) (fun _ => ?_)
        refine jw_iconst (p := 54) rfl jM195 jq195_53 ?_
        cases h5
        exact jw_iret jM195 jq195_54 (fun z => absurd z (by decide)) (k σ6 s6 (jb_rn rfl))
      · have h5 := jo_n c5 h3
        refine jiL0 (p := 6) rfl jM147 jq147_5 ?_
        refine jiL2 (p := 7) rfl jM147 jq147_6 ?_
        refine jw_ic (p := 10) rfl jM147 jq147_7 (jc_gt hl2 (jb_rn rfl)) (fun c7 => ?_) (fun c7 => ?_)
        · have h7 := jo_p c7 h5
          refine jw_iconst (p := 15) rfl jM147 jq147_14 ?_
          refine jw_iret jM147 jq147_15 (fun _ => Or.inl rfl) ?_
          show jb_w (d + 13) 195 15 [some (.ref 92), some (jb_v l1), some (jb_v l2), none, none, none] [(jb_v 0), (.ref 92)] σ Q
          refine jw_if (p := 18) rfl jM195 jq195_15 (jc_ne (jb_rn rfl) jb_r0) (fun z => absurd z (by decide)) (fun _ => ?_)
          refine jw_iconst (p := 19) rfl jM195 jq195_18 ?_
          refine jw_goto jM195 jq195_19 ?_
          refine jg_putI (p := 46) (i := 0) rfl jM195 jq195_43 rfl (jo_92 s.1) (Or.inl jz_11_0) s (by decide) (by decide) (jb_rn rfl) ?_
          intro σ8 s8
          refine jaL0 (p := 47) rfl jM195 jq195_46 ?_
          refine jg_getI (p := 50) (i := 0) rfl jM195 jq195_47 rfl (jo_92 s8.1) jn_11_0 s8 (by decide) (by decide) jg_uH ?_
          refine jw_if (p := 53) rfl jM195 jq195_50 (jc_le (jb_rn rfl) jb_r0) (fun z => absurd z (by decide)) (fun _ => ?_)
          refine jw_iconst (p := 54) rfl jM195 jq195_53 ?_
          cases h7
          exact jw_iret jM195 jq195_54 (fun z => absurd z (by decide)) (k σ8 s8 (jb_rn rfl))
        · have h7 := jo_n c7 h5
          refine jw_iconst (p := 11) rfl jM147 jq147_10 ?_
          refine jw_goto jM147 jq147_11 ?_
          refine jw_iret jM147 jq147_15 (fun _ => Or.inr rfl) ?_
          show jb_w (d + 13) 195 15 [some (.ref 92), some (jb_v l1), some (jb_v l2), none, none, none] [(jb_v 1), (.ref 92)] σ Q
          refine jw_if (p := 18) rfl jM195 jq195_15 (jc_ne (jb_rn rfl) jb_r0) (fun _ => ?_) (fun z => absurd (by decide) z)
          refine jaL0 (p := 23) rfl jM195 jq195_22 ?_
          refine jg_getI (p := 26) (i := 7) rfl jM195 jq195_23 rfl (jo_92 s.1) jn_11_7 s (by decide) (by decide) rfl ?_
          refine jw_if (p := 29) rfl jM195 jq195_26 (jc_ne (s.r _ _) jb_r0) (fun c9 => ?_) (fun c9 => ?_)
          · have h9 := jo_n c9 h7
            refine jw_iconst (p := 39) rfl jM195 jq195_38 ?_
            refine jw_goto jM195 jq195_39 ?_
            refine jg_putI (p := 46) (i := 0) rfl jM195 jq195_43 rfl (jo_92 s.1) (Or.inl jz_11_0) s (by decide) (by decide) (jb_rn rfl) ?_
            intro σ10 s10
            refine jaL0 (p := 47) rfl jM195 jq195_46 ?_
            refine jg_getI (p := 50) (i := 0) rfl jM195 jq195_47 rfl (jo_92 s10.1) jn_11_0 s10 (by decide) (by decide) jg_uH ?_
            refine jw_if (p := 53) rfl jM195 jq195_50 (jc_le (jb_rn rfl) jb_r0) (fun z => absurd z (by decide)) (fun _ => ?_)
            refine jw_iconst (p := 54) rfl jM195 jq195_53 ?_
            cases h9
            exact jw_iret jM195 jq195_54 (fun z => absurd z (by decide)) (k σ10 s10 (jb_rn rfl))
          · have h9 := jo_p (Decidable.byContradiction c9) h7
            refine jaL0 (p := 30) rfl jM195 jq195_29 ?_
            refine jw_getP (p := 33) (i := 23) (q := 107) rfl jM195 jq195_30 rfl (jo_92 s.1) je_11_23 (jp_92_23 s.1) ?_
            refine jiL1 (p := 34) rfl jM195 jq195_33 ?_
            obtain ⟨c11, h11⟩ := jo_i h9
            refine jg_bald (p := 35) rfl jM195 jq195_34 (ja_107 s.1) c11.1 c11.2 s (by decide) rfl ?_
            refine jw_if (p := 38) rfl jM195 jq195_35 (jc_ne (s.r _ _) jb_r0) (fun c12 => ?_) (fun c12 => ?_)
            · have h12 := jo_n c12 h11
              refine jw_iconst (p := 43) rfl jM195 jq195_42 ?_
              refine jg_putI (p := 46) (i := 0) rfl jM195 jq195_43 rfl (jo_92 s.1) (Or.inl jz_11_0) s (by decide) (by decide) (jb_rn rfl) ?_
              intro σ13 s13
              refine jaL0 (p := 47) rfl jM195 jq195_46 ?_
              refine jg_getI (p := 50) (i := 0) rfl jM195 jq195_47 rfl (jo_92 s13.1) jn_11_0 s13 (by decide) (by decide) jg_uH ?_
              refine jw_if (p := 53) rfl jM195 jq195_50 (jc_le (jb_rn rfl) jb_r0) (fun _ => ?_) (fun z => absurd (by decide) z)
              refine jaL0 (p := 56) rfl jM195 jq195_55 ?_
              refine jiL1 (p := 57) rfl jM195 jq195_56 ?_
              refine jiL2 (p := 58) rfl jM195 jq195_57 ?_
              refine jw_callV [(jb_v l1), (jb_v l2)] jM195 jq195_58 rfl rfl (jo_92 s13.1) rfl jM190 rfl rfl ?_
              obtain ⟨x14, b15, h15⟩ := jo_b h12
              refine jf190 hl1 hl2 b15 (fun σ14 s14 r14 => ?_) σ13 s13
              show jb_w (d + 13) 195 61 [some (.ref 92), some (jb_v l1), some (jb_v l2), none, none, none] [(jb_v (x14.2))] σ14 Q
              refine jiS3 (p := 62) rfl jM195 jq195_61 ?_
              refine jiL3 (p := 63) rfl jM195 jq195_62 ?_
              refine jw_if (p := 66) rfl jM195 jq195_63 (jc_eq r14 jb_r0) (fun c16 => ?_) (fun c16 => ?_)
              · have h16 := jo_p c16 h15
                refine jaL0 (p := 69) rfl jM195 jq195_68 ?_
                refine jiL2 (p := 70) rfl jM195 jq195_69 ?_
                refine jw_callV [(jb_v l2)] jM195 jq195_70 rfl rfl (jo_92 s14.1) rfl jM175 rfl rfl ?_
                obtain ⟨x17, b18, h18⟩ := jo_b h16
                refine jf175 hl2 b18 (fun σ17 s17 => ?_) σ14 s14
                show jb_w (d + 13) 195 73 [some (.ref 92), some (jb_v l1), some (jb_v l2), some (jb_v (x14.2)), none, none] [] σ17 Q
                refine jaL0 (p := 74) rfl jM195 jq195_73 ?_
                refine jg_getI (p := 77) (i := 7) rfl jM195 jq195_74 rfl (jo_92 s17.1) jn_11_7 s17 (by decide) (by decide) rfl ?_
                refine jw_if (p := 80) rfl jM195 jq195_77 (jc_eq (s17.r _ _) jb_r0) (fun c19 => ?_) (fun c19 => ?_)
                · have h19 := jo_p c19 h18
                  refine jaL0 (p := 84) rfl jM195 jq195_83 ?_
                  refine jaL0 (p := 85) rfl jM195 jq195_84 ?_
                  refine jw_getP (p := 88) (i := 28) (q := 112) rfl jM195 jq195_85 rfl (jo_92 s17.1) je_11_28 (jp_92_28 s17.1) ?_
                  refine jaL0 (p := 89) rfl jM195 jq195_88 ?_
                  refine jg_getI (p := 92) (i := 29) rfl jM195 jq195_89 rfl (jo_92 s17.1) jn_11_29 s17 (by decide) (by decide) rfl ?_
                  refine jw_iconst (p := 93) rfl jM195 jq195_92 ?_
                  refine jw_isub (p := 94) rfl jM195 jq195_93 ?_
                  obtain ⟨c20, h20⟩ := jo_i h19
                  refine jg_iald (p := 95) rfl jM195 jq195_94 (ja_112 s17.1) c20.1 c20.2 s17 (by decide) rfl ?_
                  refine jw_callV [(jb_v ((x17.1) 112 (((x17.1) 92 29) - 1)))] jM195 jq195_95 rfl rfl (jo_92 s17.1) rfl jM161 rfl rfl ?_
                  obtain ⟨c21, h21⟩ := jo_i h20
                  obtain ⟨x22, e23, h23⟩ := jo_lb h21
                  refine cs161 c21 (fun σ22 s22 r22 => ?_) σ17 s17
                  rw [e23] at r22 ⊢
                  show jb_w (d + 13) 195 98 [some (.ref 92), some (jb_v l1), some (jb_v l2), some (jb_v (x14.2)), none, none] [(jb_v x22)] σ22 Q
                  refine jiS4 (p := 100) rfl jM195 jq195_98 ?_
                  refine jaL0 (p := 101) rfl jM195 jq195_100 ?_
                  refine jiL4 (p := 103) rfl jM195 jq195_101 ?_
                  refine jiL2 (p := 104) rfl jM195 jq195_103 ?_
                  refine jw_callV [(jb_v x22), (jb_v l2)] jM195 jq195_104 rfl rfl (jo_92 s22.1) rfl jM158 rfl rfl ?_
                  obtain ⟨c24, h24⟩ := jo_i h23
                  obtain ⟨c25, h25⟩ := jo_i h24
                  obtain ⟨x26, e27, h27⟩ := jo_lb h25
                  refine cs158 c24 c25 hl2 (fun σ26 s26 r26 => ?_) σ22 s22
                  rw [e27] at r26 ⊢
                  show jb_w (d + 13) 195 107 [some (.ref 92), some (jb_v l1), some (jb_v l2), some (jb_v (x14.2)), some (jb_v x22), none] [(jb_v x26)] σ26 Q
                  refine jiS5 (p := 109) rfl jM195 jq195_107 ?_
                  refine jiL5 (p := 111) rfl jM195 jq195_109 ?_
                  refine jw_if (p := 114) rfl jM195 jq195_111 (jc_ge r26 jb_r0) (fun c28 => ?_) (fun c28 => ?_)
                  · have h28 := jo_p c28 h27
                    refine jaL0 (p := 119) rfl jM195 jq195_118 ?_
                    refine jiL4 (p := 121) rfl jM195 jq195_119 ?_
                    refine jiL5 (p := 123) rfl jM195 jq195_121 ?_
                    refine jw_callV [(jb_v x22), (jb_v x26)] jM195 jq195_123 rfl rfl (jo_92 s26.1) rfl jM152 rfl rfl ?_
                    show jb_w (d + 12) 152 0 [some (.ref 92), some (jb_v x22), some (jb_v x26)] [] σ26 (jb_k (d + 13) 195 123 [some (.ref 92), some (jb_v l1), some (jb_v l2), some (jb_v (x14.2)), some (jb_v x22), some (jb_v x26)] [] Q)
                    refine jaL0 (p := 1) rfl jM152 jq152_0 ?_
                    refine jw_getP (p := 4) (i := 1) (q := 93) rfl jM152 jq152_1 rfl (jo_92 s26.1) je_11_1 (jp_92_1 s26.1) ?_
                    refine jw_bipush (p := 6) rfl jM152 jq152_4 (by decide) ?_
                    refine jiL1 (p := 7) rfl jM152 jq152_6 ?_
                    refine jw_imul (p := 8) rfl jM152 jq152_7 ?_
                    refine jw_iconst (p := 9) rfl jM152 jq152_8 ?_
                    refine jw_iadd (p := 10) rfl jM152 jq152_9 ?_
                    refine jw_iconst (p := 11) rfl jM152 jq152_10 ?_
                    refine jiL2 (p := 12) rfl jM152 jq152_11 ?_
                    refine jw_imul (p := 13) rfl jM152 jq152_12 ?_
                    refine jw_iadd (p := 14) rfl jM152 jq152_13 ?_
                    obtain ⟨c29, h29⟩ := jo_i h28
                    refine jg_iald (p := 15) rfl jM152 jq152_14 (ja_93 s26.1) c29.1 c29.2 s26 (by decide) rfl ?_
                    refine jw_iret jM152 jq152_15 (fun z => absurd z (by decide)) ?_
                    show jb_w (d + 13) 195 126 [some (.ref 92), some (jb_v l1), some (jb_v l2), some (jb_v (x14.2)), some (jb_v x22), some (jb_v x26)] [(jb_v ((x17.1) 93 (((67 * x22) + 4) + (2 * x26))))] σ26 Q
                    cases h29
                    exact jw_iret jM195 jq195_126 (fun z => absurd z (by decide)) (k σ26 s26 (s17.r _ _))
                  · have h28 := jo_n c28 h27
                    refine jw_iconst (p := 115) rfl jM195 jq195_114 ?_
                    refine jw_goto jM195 jq195_115 ?_
                    cases h28
                    exact jw_iret jM195 jq195_126 (fun z => absurd z (by decide)) (k σ26 s26 (jb_rn rfl))
                · have h19 := jo_n c19 h18
                  refine jw_bipush (p := 82) rfl jM195 jq195_80 (by decide) ?_
                  cases h19
                  exact jw_iret jM195 jq195_82 (fun z => absurd z (by decide)) (k σ17 s17 (jb_rn rfl))
              · have h16 := jo_n c16 h15
                refine jiL3 (p := 67) rfl jM195 jq195_66 ?_
                cases h16
                exact jw_iret jM195 jq195_67 (fun z => absurd z (by decide)) (k σ14 s14 r14)
            · have h12 := jo_p (Decidable.byContradiction c12) h11
              refine jw_iconst (p := 39) rfl jM195 jq195_38 ?_
              refine jw_goto jM195 jq195_39 ?_
              refine jg_putI (p := 46) (i := 0) rfl jM195 jq195_43 rfl (jo_92 s.1) (Or.inl jz_11_0) s (by decide) (by decide) (jb_rn rfl) ?_
              intro σ30 s30
              refine jaL0 (p := 47) rfl jM195 jq195_46 ?_
              refine jg_getI (p := 50) (i := 0) rfl jM195 jq195_47 rfl (jo_92 s30.1) jn_11_0 s30 (by decide) (by decide) jg_uH ?_
              refine jw_if (p := 53) rfl jM195 jq195_50 (jc_le (jb_rn rfl) jb_r0) (fun z => absurd z (by decide)) (fun _ => ?_)
              refine jw_iconst (p := 54) rfl jM195 jq195_53 ?_
              cases h12
              exact jw_iret jM195 jq195_54 (fun z => absurd z (by decide)) (k σ30 s30 (jb_rn rfl))
-- 196 place need 2
def fo196 (G : jg_G) (l1 : Int) : Option (jg_G × Int) := if l1 < 0 then (some (jg_u G 92 0 1, 0)) else (if 3 < l1 then (some (jg_u G 92 0 1, 0)) else (if G 92 7 = 0 then (if 0 ≤ l1 ∧ l1 < 4 then if G 107 l1 = 0 then (some (jg_u G 92 0 2, 0)) else (some (jg_u (jg_u G 92 0 0) 110 l1 (-1), G 108 l1)) else none) else (some (jg_u G 92 0 2, 0))))
theorem jf196 {d : Nat} {σ0 : ib_H} {Q : ib_O → Prop} {G : jg_G} {l1 : Int} (hl1 : jb_r l1) {r : jg_G × Int} (h : fo196 G l1 = some r) (k : ∀ σ, jg_S σ0 r.1 σ → jb_r r.2 → Q (.inl (some (jb_v r.2)), σ)) : jg_W σ0 G (d + 2) 196 0 [some (.ref 92), some (jb_v l1)] [] Q := by
  intro σ s
  unfold fo196 at h
  refine jaL0 (p := 1) rfl jM196 jq196_0 ?_
  refine jiL1 (p := 2) rfl jM196 jq196_1 ?_
  refine jw_callS [(jb_v l1)] jM196 jq196_2 rfl rfl rfl jM184 rfl rfl ?_
  show jb_w (d + 1) 184 0 [some (jb_v l1)] [] σ (jb_k (d + 2) 196 2 [some (.ref 92), some (jb_v l1)] [(.ref 92)] Q)
  refine jiL0 (p := 1) rfl jM184 jq184_0 ?_
  refine jw_iconst (p := 2) rfl jM184 jq184_1 ?_
  refine jw_iconst (p := 3) rfl jM184 jq184_2 ?_
  refine jw_callS [(jb_v l1), (jb_v 0), (jb_v 3)] jM184 jq184_3 rfl rfl rfl jM147 rfl rfl ?_
  show jb_w d 147 0 [some (jb_v l1), some (jb_v 0), some (jb_v 3)] [] σ (jb_k (d + 1) 184 3 [some (jb_v l1)] [] (jb_k (d + 2) 196 2 [some (.ref 92), some (jb_v l1)] [(.ref 92)] Q))
  refine jiL0 (p := 1) rfl jM147 jq147_0 ?_
  refine jiL1 (p := 2) rfl jM147 jq147_1 ?_
  refine jw_ic (p := 5) rfl jM147 jq147_2 (jc_lt hl1 (jb_rn rfl)) (fun c1 => ?_) (fun c1 => ?_)
  · have h1 := jo_p c1 h
    refine jw_iconst (p := 15) rfl jM147 jq147_14 ?_
    refine jw_iret jM147 jq147_15 (fun _ => Or.inl rfl) ?_
    show jb_w (d + 1) 184 6 [some (jb_v l1)] [(jb_v 0)] σ (jb_k (d + 2) 196 2 [some (.ref 92), some (jb_v l1)] [(.ref 92)] Q)
    refine jw_iret jM184 jq184_6 (fun _ => Or.inl rfl) ?_
    show jb_w (d + 2) 196 5 [some (.ref 92), some (jb_v l1)] [(jb_v 0), (.ref 92)] σ Q
    refine jw_if (p := 8) rfl jM196 jq196_5 (jc_ne (jb_rn rfl) jb_r0) (fun z => absurd z (by decide)) (fun _ => ?_)
    refine jw_iconst (p := 9) rfl jM196 jq196_8 ?_
    refine jw_goto jM196 jq196_9 ?_
    refine jg_putI (p := 36) (i := 0) rfl jM196 jq196_33 rfl (jo_92 s.1) (Or.inl jz_11_0) s (by decide) (by decide) (jb_rn rfl) ?_
    intro σ2 s2
    refine jaL0 (p := 37) rfl jM196 jq196_36 ?_
    refine jg_getI (p := 40) (i := 0) rfl jM196 jq196_37 rfl (jo_92 s2.1) jn_11_0 s2 (by decide) (by decide) jg_uH ?_
    refine jw_if (p := 43) rfl jM196 jq196_40 (jc_le (jb_rn rfl) jb_r0) (fun z => absurd z (by decide)) (fun _ => ?_)
    refine jw_iconst (p := 44) rfl jM196 jq196_43 ?_
    cases h1
    exact jw_iret jM196 jq196_44 (fun z => absurd z (by decide)) (k σ2 s2 (jb_rn rfl))
  · have h1 := jo_n c1 h
    refine jiL0 (p := 6) rfl jM147 jq147_5 ?_
    refine jiL2 (p := 7) rfl jM147 jq147_6 ?_
    refine jw_ic (p := 10) rfl jM147 jq147_7 (jc_gt hl1 (jb_rn rfl)) (fun c3 => ?_) (fun c3 => ?_)
    · have h3 := jo_p c3 h1
      refine jw_iconst (p := 15) rfl jM147 jq147_14 ?_
      refine jw_iret jM147 jq147_15 (fun _ => Or.inl rfl) ?_
      show jb_w (d + 1) 184 6 [some (jb_v l1)] [(jb_v 0)] σ (jb_k (d + 2) 196 2 [some (.ref 92), some (jb_v l1)] [(.ref 92)] Q)
      refine jw_iret jM184 jq184_6 (fun _ => Or.inl rfl) ?_
      show jb_w (d + 2) 196 5 [some (.ref 92), some (jb_v l1)] [(jb_v 0), (.ref 92)] σ Q
      refine jw_if (p := 8) rfl jM196 jq196_5 (jc_ne (jb_rn rfl) jb_r0) (fun z => absurd z (by decide)) (fun _ => ?_)
      refine jw_iconst (p := 9) rfl jM196 jq196_8 ?_
      refine jw_goto jM196 jq196_9 ?_
      refine jg_putI (p := 36) (i := 0) rfl jM196 jq196_33 rfl (jo_92 s.1) (Or.inl jz_11_0) s (by decide) (by decide) (jb_rn rfl) ?_
      intro σ4 s4
      refine jaL0 (p := 37) rfl jM196 jq196_36 ?_
      refine jg_getI (p := 40) (i := 0) rfl jM196 jq196_37 rfl (jo_92 s4.1) jn_11_0 s4 (by decide) (by decide) jg_uH ?_
      refine jw_if (p := 43) rfl jM196 jq196_40 (jc_le (jb_rn rfl) jb_r0) (fun z => absurd z (by decide)) (fun _ => ?_)
      refine jw_iconst (p := 44) rfl jM196 jq196_43 ?_
      cases h3
      exact jw_iret jM196 jq196_44 (fun z => absurd z (by decide)) (k σ4 s4 (jb_rn rfl))
    · have h3 := jo_n c3 h1
      refine jw_iconst (p := 11) rfl jM147 jq147_10 ?_
      refine jw_goto jM147 jq147_11 ?_
      refine jw_iret jM147 jq147_15 (fun _ => Or.inr rfl) ?_
      show jb_w (d + 1) 184 6 [some (jb_v l1)] [(jb_v 1)] σ (jb_k (d + 2) 196 2 [some (.ref 92), some (jb_v l1)] [(.ref 92)] Q)
      refine jw_iret jM184 jq184_6 (fun _ => Or.inr rfl) ?_
      show jb_w (d + 2) 196 5 [some (.ref 92), some (jb_v l1)] [(jb_v 1), (.ref 92)] σ Q
      refine jw_if (p := 8) rfl jM196 jq196_5 (jc_ne (jb_rn rfl) jb_r0) (fun _ => ?_) (fun z => absurd (by decide) z)
      refine jaL0 (p := 13) rfl jM196 jq196_12 ?_
      refine jg_getI (p := 16) (i := 7) rfl jM196 jq196_13 rfl (jo_92 s.1) jn_11_7 s (by decide) (by decide) rfl ?_
      refine jw_if (p := 19) rfl jM196 jq196_16 (jc_ne (s.r _ _) jb_r0) (fun c5 => ?_) (fun c5 => ?_)
      · have h5 := jo_n c5 h3
        refine jw_iconst (p := 29) rfl jM196 jq196_28 ?_
        refine jw_goto jM196 jq196_29 ?_
        refine jg_putI (p := 36) (i := 0) rfl jM196 jq196_33 rfl (jo_92 s.1) (Or.inl jz_11_0) s (by decide) (by decide) (jb_rn rfl) ?_
        intro σ6 s6
        refine jaL0 (p := 37) rfl jM196 jq196_36 ?_
        refine jg_getI (p := 40) (i := 0) rfl jM196 jq196_37 rfl (jo_92 s6.1) jn_11_0 s6 (by decide) (by decide) jg_uH ?_
        refine jw_if (p := 43) rfl jM196 jq196_40 (jc_le (jb_rn rfl) jb_r0) (fun z => absurd z (by decide)) (fun _ => ?_)
        refine jw_iconst (p := 44) rfl jM196 jq196_43 ?_
        cases h5
        exact jw_iret jM196 jq196_44 (fun z => absurd z (by decide)) (k σ6 s6 (jb_rn rfl))
      · have h5 := jo_p (Decidable.byContradiction c5) h3
        refine jaL0 (p := 20) rfl jM196 jq196_19 ?_
        refine jw_getP (p := 23) (i := 23) (q := 107) rfl jM196 jq196_20 rfl (jo_92 s.1) je_11_23 (jp_92_23 s.1) ?_
        refine jiL1 (p := 24) rfl jM196 jq196_23 ?_
        obtain ⟨c7, h7⟩ := jo_i h5
        refine jg_bald (p := 25) rfl jM196 jq196_24 (ja_107 s.1) c7.1 c7.2 s (by decide) rfl ?_
        refine jw_if (p := 28) rfl jM196 jq196_25 (jc_ne (s.r _ _) jb_r0) (fun c8 => ?_) (fun c8 => ?_)
        · have h8 := jo_n c8 h7
          refine jw_iconst (p := 33) rfl jM196 jq196_32 ?_
          refine jg_putI (p := 36) (i := 0) rfl jM196 jq196_33 rfl (jo_92 s.1) (Or.inl jz_11_0) s (by decide) (by decide) (jb_rn rfl) ?_
          intro σ9 s9
          refine jaL0 (p := 37) rfl jM196 jq196_36 ?_
          refine jg_getI (p := 40) (i := 0) rfl jM196 jq196_37 rfl (jo_92 s9.1) jn_11_0 s9 (by decide) (by decide) jg_uH ?_
          refine jw_if (p := 43) rfl jM196 jq196_40 (jc_le (jb_rn rfl) jb_r0) (fun _ => ?_) (fun z => absurd (by decide) z)
          refine jaL0 (p := 46) rfl jM196 jq196_45 ?_
          refine jw_getP (p := 49) (i := 26) (q := 110) rfl jM196 jq196_46 rfl (jo_92 s9.1) je_11_26 (jp_92_26 s9.1) ?_
          refine jiL1 (p := 50) rfl jM196 jq196_49 ?_
          refine jw_iconst (p := 51) rfl jM196 jq196_50 ?_
          refine jg_iast (p := 52) rfl jM196 jq196_51 (ja_110 s9.1) c7.1 c7.2 s9 (by decide) (jb_rn rfl) ?_
          intro σ10 s10
          refine jaL0 (p := 53) rfl jM196 jq196_52 ?_
          refine jw_getP (p := 56) (i := 24) (q := 108) rfl jM196 jq196_53 rfl (jo_92 s10.1) je_11_24 (jp_92_24 s10.1) ?_
          refine jiL1 (p := 57) rfl jM196 jq196_56 ?_
          refine jg_iald (p := 58) rfl jM196 jq196_57 (ja_108 s10.1) c7.1 c7.2 s10 (by decide) ((jg_uN (by decide)).trans (jg_uN (by decide))) ?_
          cases h8
          exact jw_iret jM196 jq196_58 (fun z => absurd z (by decide)) (k σ10 s10 (s.r _ _))
        · have h8 := jo_p (Decidable.byContradiction c8) h7
          refine jw_iconst (p := 29) rfl jM196 jq196_28 ?_
          refine jw_goto jM196 jq196_29 ?_
          refine jg_putI (p := 36) (i := 0) rfl jM196 jq196_33 rfl (jo_92 s.1) (Or.inl jz_11_0) s (by decide) (by decide) (jb_rn rfl) ?_
          intro σ11 s11
          refine jaL0 (p := 37) rfl jM196 jq196_36 ?_
          refine jg_getI (p := 40) (i := 0) rfl jM196 jq196_37 rfl (jo_92 s11.1) jn_11_0 s11 (by decide) (by decide) jg_uH ?_
          refine jw_if (p := 43) rfl jM196 jq196_40 (jc_le (jb_rn rfl) jb_r0) (fun z => absurd z (by decide)) (fun _ => ?_)
          refine jw_iconst (p := 44) rfl jM196 jq196_43 ?_
          cases h8
          exact jw_iret jM196 jq196_44 (fun z => absurd z (by decide)) (k σ11 s11 (jb_rn rfl))
-- 197 back need 11
def fo197 (G : jg_G) (l1 : Int) (l2 : Int) : Option (jg_G × Int) := if l1 < 0 then (some (jg_u G 92 0 1, 0)) else (if 3 < l1 then (some (jg_u G 92 0 1, 0)) else (if l2 < 0 then (some (jg_u G 92 0 1, 0)) else (if G 92 12 < l2 then (some (jg_u G 92 0 1, 0)) else (if G 92 7 = 0 then (if 0 ≤ l1 ∧ l1 < 4 then if G 107 l1 = 0 then (some (jg_u G 92 0 2, 0)) else ((fo187 (jg_u (jg_u G 92 0 0) 110 l1 (-1)) l1 l2).bind fun x15 => if (x15.1) 92 7 = 0 then (some (x15.1, x15.2)) else (some (x15.1, (-4)))) else none) else (some (jg_u G 92 0 2, 0))))))
theorem jf197 {d : Nat} {σ0 : ib_H} {Q : ib_O → Prop} {G : jg_G} {l1 : Int} {l2 : Int} (hl1 : jb_r l1) (hl2 : jb_r l2) {r : jg_G × Int} (h : fo197 G l1 l2 = some r) (k : ∀ σ, jg_S σ0 r.1 σ → jb_r r.2 → Q (.inl (some (jb_v r.2)), σ)) : jg_W σ0 G (d + 11) 197 0 [some (.ref 92), some (jb_v l1), some (jb_v l2), none] [] Q := by
  intro σ s
  unfold fo197 at h
  refine jaL0 (p := 1) rfl jM197 jq197_0 ?_
  refine jiL1 (p := 2) rfl jM197 jq197_1 ?_
  refine jw_callS [(jb_v l1)] jM197 jq197_2 rfl rfl rfl jM184 rfl rfl ?_
  show jb_w (d + 10) 184 0 [some (jb_v l1)] [] σ (jb_k (d + 11) 197 2 [some (.ref 92), some (jb_v l1), some (jb_v l2), none] [(.ref 92)] Q)
  refine jiL0 (p := 1) rfl jM184 jq184_0 ?_
  refine jw_iconst (p := 2) rfl jM184 jq184_1 ?_
  refine jw_iconst (p := 3) rfl jM184 jq184_2 ?_
  refine jw_callS [(jb_v l1), (jb_v 0), (jb_v 3)] jM184 jq184_3 rfl rfl rfl jM147 rfl rfl ?_
  show jb_w (d + 9) 147 0 [some (jb_v l1), some (jb_v 0), some (jb_v 3)] [] σ (jb_k (d + 10) 184 3 [some (jb_v l1)] [] (jb_k (d + 11) 197 2 [some (.ref 92), some (jb_v l1), some (jb_v l2), none] [(.ref 92)] Q))
  refine jiL0 (p := 1) rfl jM147 jq147_0 ?_
  refine jiL1 (p := 2) rfl jM147 jq147_1 ?_
  refine jw_ic (p := 5) rfl jM147 jq147_2 (jc_lt hl1 (jb_rn rfl)) (fun c1 => ?_) (fun c1 => ?_)
  · have h1 := jo_p c1 h
    refine jw_iconst (p := 15) rfl jM147 jq147_14 ?_
    refine jw_iret jM147 jq147_15 (fun _ => Or.inl rfl) ?_
    show jb_w (d + 10) 184 6 [some (jb_v l1)] [(jb_v 0)] σ (jb_k (d + 11) 197 2 [some (.ref 92), some (jb_v l1), some (jb_v l2), none] [(.ref 92)] Q)
    refine jw_iret jM184 jq184_6 (fun _ => Or.inl rfl) ?_
    show jb_w (d + 11) 197 5 [some (.ref 92), some (jb_v l1), some (jb_v l2), none] [(jb_v 0), (.ref 92)] σ Q
    refine jw_if (p := 8) rfl jM197 jq197_5 (jc_eq (jb_rn rfl) jb_r0) (fun _ => ?_) (fun z => absurd (by decide) z)
    refine jw_iconst (p := 21) rfl jM197 jq197_20 ?_
    refine jw_goto jM197 jq197_21 ?_
    refine jg_putI (p := 48) (i := 0) rfl jM197 jq197_45 rfl (jo_92 s.1) (Or.inl jz_11_0) s (by decide) (by decide) (jb_rn rfl) ?_
    intro σ2 s2
    refine jaL0 (p := 49) rfl jM197 jq197_48 ?_
    refine jg_getI (p := 52) (i := 0) rfl jM197 jq197_49 rfl (jo_92 s2.1) jn_11_0 s2 (by decide) (by decide) jg_uH ?_
    refine jw_if (p := 55) rfl jM197 jq197_52 (jc_le (jb_rn rfl) jb_r0) (fun z => absurd z (by decide)) (fun _ => ?_)
    refine jw_iconst (p := 56) rfl jM197 jq197_55 ?_
    cases h1
    exact jw_iret jM197 jq197_56 (fun z => absurd z (by decide)) (k σ2 s2 (jb_rn rfl))
  · have h1 := jo_n c1 h
    refine jiL0 (p := 6) rfl jM147 jq147_5 ?_
    refine jiL2 (p := 7) rfl jM147 jq147_6 ?_
    refine jw_ic (p := 10) rfl jM147 jq147_7 (jc_gt hl1 (jb_rn rfl)) (fun c3 => ?_) (fun c3 => ?_)
    · have h3 := jo_p c3 h1
      refine jw_iconst (p := 15) rfl jM147 jq147_14 ?_
      refine jw_iret jM147 jq147_15 (fun _ => Or.inl rfl) ?_
      show jb_w (d + 10) 184 6 [some (jb_v l1)] [(jb_v 0)] σ (jb_k (d + 11) 197 2 [some (.ref 92), some (jb_v l1), some (jb_v l2), none] [(.ref 92)] Q)
      refine jw_iret jM184 jq184_6 (fun _ => Or.inl rfl) ?_
      show jb_w (d + 11) 197 5 [some (.ref 92), some (jb_v l1), some (jb_v l2), none] [(jb_v 0), (.ref 92)] σ Q
      refine jw_if (p := 8) rfl jM197 jq197_5 (jc_eq (jb_rn rfl) jb_r0) (fun _ => ?_) (fun z => absurd (by decide) z)
      refine jw_iconst (p := 21) rfl jM197 jq197_20 ?_
      refine jw_goto jM197 jq197_21 ?_
      refine jg_putI (p := 48) (i := 0) rfl jM197 jq197_45 rfl (jo_92 s.1) (Or.inl jz_11_0) s (by decide) (by decide) (jb_rn rfl) ?_
      intro σ4 s4
      refine jaL0 (p := 49) rfl jM197 jq197_48 ?_
      refine jg_getI (p := 52) (i := 0) rfl jM197 jq197_49 rfl (jo_92 s4.1) jn_11_0 s4 (by decide) (by decide) jg_uH ?_
      refine jw_if (p := 55) rfl jM197 jq197_52 (jc_le (jb_rn rfl) jb_r0) (fun z => absurd z (by decide)) (fun _ => ?_)
      refine jw_iconst (p := 56) rfl jM197 jq197_55 ?_
      cases h3
      exact jw_iret jM197 jq197_56 (fun z => absurd z (by decide)) (k σ4 s4 (jb_rn rfl))
    · have h3 := jo_n c3 h1
      refine jw_iconst (p := 11) rfl jM147 jq147_10 ?_
      refine jw_goto jM147 jq147_11 ?_
      refine jw_iret jM147 jq147_15 (fun _ => Or.inr rfl) ?_
      show jb_w (d + 10) 184 6 [some (jb_v l1)] [(jb_v 1)] σ (jb_k (d + 11) 197 2 [some (.ref 92), some (jb_v l1), some (jb_v l2), none] [(.ref 92)] Q)
      refine jw_iret jM184 jq184_6 (fun _ => Or.inr rfl) ?_
      show jb_w (d + 11) 197 5 [some (.ref 92), some (jb_v l1), some (jb_v l2), none] [(jb_v 1), (.ref 92)] σ Q
      refine jw_if (p := 8) rfl jM197 jq197_5 (jc_eq (jb_rn rfl) jb_r0) (fun z => absurd z (by decide)) (fun _ => ?_)
      refine jiL2 (p := 9) rfl jM197 jq197_8 ?_
      refine jw_iconst (p := 10) rfl jM197 jq197_9 ?_
      refine jaL0 (p := 11) rfl jM197 jq197_10 ?_
      refine jg_getI (p := 14) (i := 12) rfl jM197 jq197_11 rfl (jo_92 s.1) jn_11_12 s (by decide) (by decide) rfl ?_
      refine jw_callS [(jb_v l2), (jb_v 0), (jb_v (G 92 12))] jM197 jq197_14 rfl rfl rfl jM147 rfl rfl ?_
      show jb_w (d + 10) 147 0 [some (jb_v l2), some (jb_v 0), some (jb_v (G 92 12))] [] σ (jb_k (d + 11) 197 14 [some (.ref 92), some (jb_v l1), some (jb_v l2), none] [(.ref 92)] Q)
      refine jiL0 (p := 1) rfl jM147 jq147_0 ?_
      refine jiL1 (p := 2) rfl jM147 jq147_1 ?_
      refine jw_ic (p := 5) rfl jM147 jq147_2 (jc_lt hl2 (jb_rn rfl)) (fun c5 => ?_) (fun c5 => ?_)
      · have h5 := jo_p c5 h3
        refine jw_iconst (p := 15) rfl jM147 jq147_14 ?_
        refine jw_iret jM147 jq147_15 (fun _ => Or.inl rfl) ?_
        show jb_w (d + 11) 197 17 [some (.ref 92), some (jb_v l1), some (jb_v l2), none] [(jb_v 0), (.ref 92)] σ Q
        refine jw_if (p := 20) rfl jM197 jq197_17 (jc_ne (jb_rn rfl) jb_r0) (fun z => absurd z (by decide)) (fun _ => ?_)
        refine jw_iconst (p := 21) rfl jM197 jq197_20 ?_
        refine jw_goto jM197 jq197_21 ?_
        refine jg_putI (p := 48) (i := 0) rfl jM197 jq197_45 rfl (jo_92 s.1) (Or.inl jz_11_0) s (by decide) (by decide) (jb_rn rfl) ?_
        intro σ6 s6
        refine jaL0 (p := 49) rfl jM197 jq197_48 ?_
        refine jg_getI (p := 52) (i := 0) rfl jM197 jq197_49 rfl (jo_92 s6.1) jn_11_0 s6 (by decide) (by decide) jg_uH ?_
        refine jw_if (p := 55) rfl jM197 jq197_52 (jc_le (jb_rn rfl) jb_r0) (fun z => absurd z (by decide)) (fun _ => ?_)
        refine jw_iconst (p := 56) rfl jM197 jq197_55 ?_
        cases h5
        exact jw_iret jM197 jq197_56 (fun z => absurd z (by decide)) (k σ6 s6 (jb_rn rfl))
      · have h5 := jo_n c5 h3
        refine jiL0 (p := 6) rfl jM147 jq147_5 ?_
        refine jiL2 (p := 7) rfl jM147 jq147_6 ?_
        refine jw_ic (p := 10) rfl jM147 jq147_7 (jc_gt hl2 (s.r _ _)) (fun c7 => ?_) (fun c7 => ?_)
        · have h7 := jo_p c7 h5
          refine jw_iconst (p := 15) rfl jM147 jq147_14 ?_
          refine jw_iret jM147 jq147_15 (fun _ => Or.inl rfl) ?_
          show jb_w (d + 11) 197 17 [some (.ref 92), some (jb_v l1), some (jb_v l2), none] [(jb_v 0), (.ref 92)] σ Q
          refine jw_if (p := 20) rfl jM197 jq197_17 (jc_ne (jb_rn rfl) jb_r0) (fun z => absurd z (by decide)) (fun _ => ?_)
          refine jw_iconst (p := 21) rfl jM197 jq197_20 ?_
          refine jw_goto jM197 jq197_21 ?_
          refine jg_putI (p := 48) (i := 0) rfl jM197 jq197_45 rfl (jo_92 s.1) (Or.inl jz_11_0) s (by decide) (by decide) (jb_rn rfl) ?_
          intro σ8 s8
          refine jaL0 (p := 49) rfl jM197 jq197_48 ?_
          refine jg_getI (p := 52) (i := 0) rfl jM197 jq197_49 rfl (jo_92 s8.1) jn_11_0 s8 (by decide) (by decide) jg_uH ?_
          refine jw_if (p := 55) rfl jM197 jq197_52 (jc_le (jb_rn rfl) jb_r0) (fun z => absurd z (by decide)) (fun _ => ?_)
          refine jw_iconst (p := 56) rfl jM197 jq197_55 ?_
          cases h7
          exact jw_iret jM197 jq197_56 (fun z => absurd z (by decide)) (k σ8 s8 (jb_rn rfl))
        · have h7 := jo_n c7 h5
          refine jw_iconst (p := 11) rfl jM147 jq147_10 ?_
          refine jw_goto jM147 jq147_11 ?_
          refine jw_iret jM147 jq147_15 (fun _ => Or.inr rfl) ?_
          show jb_w (d + 11) 197 17 [some (.ref 92), some (jb_v l1), some (jb_v l2), none] [(jb_v 1), (.ref 92)] σ Q
          refine jw_if (p := 20) rfl jM197 jq197_17 (jc_ne (jb_rn rfl) jb_r0) (fun _ => ?_) (fun z => absurd (by decide) z)
          refine jaL0 (p := 25) rfl jM197 jq197_24 ?_
          refine jg_getI (p := 28) (i := 7) rfl jM197 jq197_25 rfl (jo_92 s.1) jn_11_7 s (by decide) (by decide) rfl ?_
          refine jw_if (p := 31) rfl jM197 jq197_28 (jc_ne (s.r _ _) jb_r0) (fun c9 => ?_) (fun c9 => ?_)
          · have h9 := jo_n c9 h7
            refine jw_iconst (p := 41) rfl jM197 jq197_40 ?_
            refine jw_goto jM197 jq197_41 ?_
            refine jg_putI (p := 48) (i := 0) rfl jM197 jq197_45 rfl (jo_92 s.1) (Or.inl jz_11_0) s (by decide) (by decide) (jb_rn rfl) ?_
            intro σ10 s10
            refine jaL0 (p := 49) rfl jM197 jq197_48 ?_
            refine jg_getI (p := 52) (i := 0) rfl jM197 jq197_49 rfl (jo_92 s10.1) jn_11_0 s10 (by decide) (by decide) jg_uH ?_
            refine jw_if (p := 55) rfl jM197 jq197_52 (jc_le (jb_rn rfl) jb_r0) (fun z => absurd z (by decide)) (fun _ => ?_)
            refine jw_iconst (p := 56) rfl jM197 jq197_55 ?_
            cases h9
            exact jw_iret jM197 jq197_56 (fun z => absurd z (by decide)) (k σ10 s10 (jb_rn rfl))
          · have h9 := jo_p (Decidable.byContradiction c9) h7
            refine jaL0 (p := 32) rfl jM197 jq197_31 ?_
            refine jw_getP (p := 35) (i := 23) (q := 107) rfl jM197 jq197_32 rfl (jo_92 s.1) je_11_23 (jp_92_23 s.1) ?_
            refine jiL1 (p := 36) rfl jM197 jq197_35 ?_
            obtain ⟨c11, h11⟩ := jo_i h9
            refine jg_bald (p := 37) rfl jM197 jq197_36 (ja_107 s.1) c11.1 c11.2 s (by decide) rfl ?_
            refine jw_if (p := 40) rfl jM197 jq197_37 (jc_ne (s.r _ _) jb_r0) (fun c12 => ?_) (fun c12 => ?_)
            · have h12 := jo_n c12 h11
              refine jw_iconst (p := 45) rfl jM197 jq197_44 ?_
              refine jg_putI (p := 48) (i := 0) rfl jM197 jq197_45 rfl (jo_92 s.1) (Or.inl jz_11_0) s (by decide) (by decide) (jb_rn rfl) ?_
              intro σ13 s13
              refine jaL0 (p := 49) rfl jM197 jq197_48 ?_
              refine jg_getI (p := 52) (i := 0) rfl jM197 jq197_49 rfl (jo_92 s13.1) jn_11_0 s13 (by decide) (by decide) jg_uH ?_
              refine jw_if (p := 55) rfl jM197 jq197_52 (jc_le (jb_rn rfl) jb_r0) (fun _ => ?_) (fun z => absurd (by decide) z)
              refine jaL0 (p := 58) rfl jM197 jq197_57 ?_
              refine jw_getP (p := 61) (i := 26) (q := 110) rfl jM197 jq197_58 rfl (jo_92 s13.1) je_11_26 (jp_92_26 s13.1) ?_
              refine jiL1 (p := 62) rfl jM197 jq197_61 ?_
              refine jw_iconst (p := 63) rfl jM197 jq197_62 ?_
              refine jg_iast (p := 64) rfl jM197 jq197_63 (ja_110 s13.1) c11.1 c11.2 s13 (by decide) (jb_rn rfl) ?_
              intro σ14 s14
              refine jaL0 (p := 65) rfl jM197 jq197_64 ?_
              refine jiL1 (p := 66) rfl jM197 jq197_65 ?_
              refine jiL2 (p := 67) rfl jM197 jq197_66 ?_
              refine jw_callV [(jb_v l1), (jb_v l2)] jM197 jq197_67 rfl rfl (jo_92 s14.1) rfl jM187 rfl rfl ?_
              obtain ⟨x15, b16, h16⟩ := jo_b h12
              refine jf187 hl1 hl2 b16 (fun σ15 s15 r15 => ?_) σ14 s14
              show jb_w (d + 11) 197 70 [some (.ref 92), some (jb_v l1), some (jb_v l2), none] [(jb_v (x15.2))] σ15 Q
              refine jiS3 (p := 71) rfl jM197 jq197_70 ?_
              refine jaL0 (p := 72) rfl jM197 jq197_71 ?_
              refine jg_getI (p := 75) (i := 7) rfl jM197 jq197_72 rfl (jo_92 s15.1) jn_11_7 s15 (by decide) (by decide) rfl ?_
              refine jw_if (p := 78) rfl jM197 jq197_75 (jc_eq (s15.r _ _) jb_r0) (fun c17 => ?_) (fun c17 => ?_)
              · have h17 := jo_p c17 h16
                refine jiL3 (p := 84) rfl jM197 jq197_83 ?_
                cases h17
                exact jw_iret jM197 jq197_84 (fun z => absurd z (by decide)) (k σ15 s15 r15)
              · have h17 := jo_n c17 h16
                refine jw_bipush (p := 80) rfl jM197 jq197_78 (by decide) ?_
                refine jw_goto jM197 jq197_80 ?_
                cases h17
                exact jw_iret jM197 jq197_84 (fun z => absurd z (by decide)) (k σ15 s15 (jb_rn rfl))
            · have h12 := jo_p (Decidable.byContradiction c12) h11
              refine jw_iconst (p := 41) rfl jM197 jq197_40 ?_
              refine jw_goto jM197 jq197_41 ?_
              refine jg_putI (p := 48) (i := 0) rfl jM197 jq197_45 rfl (jo_92 s.1) (Or.inl jz_11_0) s (by decide) (by decide) (jb_rn rfl) ?_
              intro σ18 s18
              refine jaL0 (p := 49) rfl jM197 jq197_48 ?_
              refine jg_getI (p := 52) (i := 0) rfl jM197 jq197_49 rfl (jo_92 s18.1) jn_11_0 s18 (by decide) (by decide) jg_uH ?_
              refine jw_if (p := 55) rfl jM197 jq197_52 (jc_le (jb_rn rfl) jb_r0) (fun z => absurd z (by decide)) (fun _ => ?_)
              refine jw_iconst (p := 56) rfl jM197 jq197_55 ?_
              cases h12
              exact jw_iret jM197 jq197_56 (fun z => absurd z (by decide)) (k σ18 s18 (jb_rn rfl))
-- 198 commit need 4
def fo198 (G : jg_G) (l1 : Int) : Option (jg_G × Int) := if l1 < 0 then (some (jg_u G 92 0 1, 0)) else (if 3 < l1 then (some (jg_u G 92 0 1, 0)) else (if G 92 7 = 0 then (if 0 ≤ l1 ∧ l1 < 4 then if G 107 l1 = 0 then (some (jg_u G 92 0 2, 0)) else (if 0 ≤ (jg_u (jg_u G 92 0 0) 110 l1 (-1)) 92 12 ∧ (jg_u (jg_u G 92 0 0) 110 l1 (-1)) 92 12 < 1500 then if -1 ≤ l1 ∧ l1 < 4 then jo_l ((jg_u (jg_u G 92 0 0) 110 l1 (-1)) 92 12 + 1) fun x13 => if 0 ≤ x13 ∧ x13 < 1501 then if 0 ≤ (fr_no (jg_u (jg_u G 92 0 0) 110 l1 (-1)) (2 : Int) l1) 92 6 ∧ (fr_no (jg_u (jg_u G 92 0 0) 110 l1 (-1)) (2 : Int) l1) 92 6 < 1000 then if 0 ≤ (fr_no (jg_u (jg_u G 92 0 0) 110 l1 (-1)) (2 : Int) l1) 92 13 then if (fr_ha (fr_no (jg_u (jg_u G 92 0 0) 110 l1 (-1)) (2 : Int) l1) x13) 92 7 = 0 then (if 0 ≤ l1 ∧ l1 < 4 then some (fr_cl (fr_ha (fr_no (jg_u (jg_u G 92 0 0) 110 l1 (-1)) (2 : Int) l1) x13) l1, x13) else none) else (some (fr_ha (fr_no (jg_u (jg_u G 92 0 0) 110 l1 (-1)) (2 : Int) l1) x13, (-4))) else none else none else none else none else none) else none) else (some (jg_u G 92 0 2, 0))))
theorem jf198 {d : Nat} {σ0 : ib_H} {Q : ib_O → Prop} {G : jg_G} {l1 : Int} (hl1 : jb_r l1) {r : jg_G × Int} (h : fo198 G l1 = some r) (k : ∀ σ, jg_S σ0 r.1 σ → jb_r r.2 → Q (.inl (some (jb_v r.2)), σ)) : jg_W σ0 G (d + 4) 198 0 [some (.ref 92), some (jb_v l1), none] [] Q := by
  intro σ s
  unfold fo198 at h
  refine jaL0 (p := 1) rfl jM198 jq198_0 ?_
  refine jiL1 (p := 2) rfl jM198 jq198_1 ?_
  refine jw_callS [(jb_v l1)] jM198 jq198_2 rfl rfl rfl jM184 rfl rfl ?_
  show jb_w (d + 3) 184 0 [some (jb_v l1)] [] σ (jb_k (d + 4) 198 2 [some (.ref 92), some (jb_v l1), none] [(.ref 92)] Q)
  refine jiL0 (p := 1) rfl jM184 jq184_0 ?_
  refine jw_iconst (p := 2) rfl jM184 jq184_1 ?_
  refine jw_iconst (p := 3) rfl jM184 jq184_2 ?_
  refine jw_callS [(jb_v l1), (jb_v 0), (jb_v 3)] jM184 jq184_3 rfl rfl rfl jM147 rfl rfl ?_
  show jb_w (d + 2) 147 0 [some (jb_v l1), some (jb_v 0), some (jb_v 3)] [] σ (jb_k (d + 3) 184 3 [some (jb_v l1)] [] (jb_k (d + 4) 198 2 [some (.ref 92), some (jb_v l1), none] [(.ref 92)] Q))
  refine jiL0 (p := 1) rfl jM147 jq147_0 ?_
  refine jiL1 (p := 2) rfl jM147 jq147_1 ?_
  refine jw_ic (p := 5) rfl jM147 jq147_2 (jc_lt hl1 (jb_rn rfl)) (fun c1 => ?_) (fun c1 => ?_)
  · have h1 := jo_p c1 h
    refine jw_iconst (p := 15) rfl jM147 jq147_14 ?_
    refine jw_iret jM147 jq147_15 (fun _ => Or.inl rfl) ?_
    show jb_w (d + 3) 184 6 [some (jb_v l1)] [(jb_v 0)] σ (jb_k (d + 4) 198 2 [some (.ref 92), some (jb_v l1), none] [(.ref 92)] Q)
    refine jw_iret jM184 jq184_6 (fun _ => Or.inl rfl) ?_
    show jb_w (d + 4) 198 5 [some (.ref 92), some (jb_v l1), none] [(jb_v 0), (.ref 92)] σ Q
    refine jw_if (p := 8) rfl jM198 jq198_5 (jc_ne (jb_rn rfl) jb_r0) (fun z => absurd z (by decide)) (fun _ => ?_)
    refine jw_iconst (p := 9) rfl jM198 jq198_8 ?_
    refine jw_goto jM198 jq198_9 ?_
    refine jg_putI (p := 36) (i := 0) rfl jM198 jq198_33 rfl (jo_92 s.1) (Or.inl jz_11_0) s (by decide) (by decide) (jb_rn rfl) ?_
    intro σ2 s2
    refine jaL0 (p := 37) rfl jM198 jq198_36 ?_
    refine jg_getI (p := 40) (i := 0) rfl jM198 jq198_37 rfl (jo_92 s2.1) jn_11_0 s2 (by decide) (by decide) jg_uH ?_
    refine jw_if (p := 43) rfl jM198 jq198_40 (jc_le (jb_rn rfl) jb_r0) (fun z => absurd z (by decide)) (fun _ => ?_)
    refine jw_iconst (p := 44) rfl jM198 jq198_43 ?_
    cases h1
    exact jw_iret jM198 jq198_44 (fun z => absurd z (by decide)) (k σ2 s2 (jb_rn rfl))
  · have h1 := jo_n c1 h
    refine jiL0 (p := 6) rfl jM147 jq147_5 ?_
    refine jiL2 (p := 7) rfl jM147 jq147_6 ?_
    refine jw_ic (p := 10) rfl jM147 jq147_7 (jc_gt hl1 (jb_rn rfl)) (fun c3 => ?_) (fun c3 => ?_)
    · have h3 := jo_p c3 h1
      refine jw_iconst (p := 15) rfl jM147 jq147_14 ?_
      refine jw_iret jM147 jq147_15 (fun _ => Or.inl rfl) ?_
      show jb_w (d + 3) 184 6 [some (jb_v l1)] [(jb_v 0)] σ (jb_k (d + 4) 198 2 [some (.ref 92), some (jb_v l1), none] [(.ref 92)] Q)
      refine jw_iret jM184 jq184_6 (fun _ => Or.inl rfl) ?_
      show jb_w (d + 4) 198 5 [some (.ref 92), some (jb_v l1), none] [(jb_v 0), (.ref 92)] σ Q
      refine jw_if (p := 8) rfl jM198 jq198_5 (jc_ne (jb_rn rfl) jb_r0) (fun z => absurd z (by decide)) (fun _ => ?_)
      refine jw_iconst (p := 9) rfl jM198 jq198_8 ?_
      refine jw_goto jM198 jq198_9 ?_
      refine jg_putI (p := 36) (i := 0) rfl jM198 jq198_33 rfl (jo_92 s.1) (Or.inl jz_11_0) s (by decide) (by decide) (jb_rn rfl) ?_
      intro σ4 s4
      refine jaL0 (p := 37) rfl jM198 jq198_36 ?_
      refine jg_getI (p := 40) (i := 0) rfl jM198 jq198_37 rfl (jo_92 s4.1) jn_11_0 s4 (by decide) (by decide) jg_uH ?_
      refine jw_if (p := 43) rfl jM198 jq198_40 (jc_le (jb_rn rfl) jb_r0) (fun z => absurd z (by decide)) (fun _ => ?_)
      refine jw_iconst (p := 44) rfl jM198 jq198_43 ?_
      cases h3
      exact jw_iret jM198 jq198_44 (fun z => absurd z (by decide)) (k σ4 s4 (jb_rn rfl))
    · have h3 := jo_n c3 h1
      refine jw_iconst (p := 11) rfl jM147 jq147_10 ?_
      refine jw_goto jM147 jq147_11 ?_
      refine jw_iret jM147 jq147_15 (fun _ => Or.inr rfl) ?_
      show jb_w (d + 3) 184 6 [some (jb_v l1)] [(jb_v 1)] σ (jb_k (d + 4) 198 2 [some (.ref 92), some (jb_v l1), none] [(.ref 92)] Q)
      refine jw_iret jM184 jq184_6 (fun _ => Or.inr rfl) ?_
      show jb_w (d + 4) 198 5 [some (.ref 92), some (jb_v l1), none] [(jb_v 1), (.ref 92)] σ Q
      refine jw_if (p := 8) rfl jM198 jq198_5 (jc_ne (jb_rn rfl) jb_r0) (fun _ => ?_) (fun z => absurd (by decide) z)
      refine jaL0 (p := 13) rfl jM198 jq198_12 ?_
      refine jg_getI (p := 16) (i := 7) rfl jM198 jq198_13 rfl (jo_92 s.1) jn_11_7 s (by decide) (by decide) rfl ?_
      refine jw_if (p := 19) rfl jM198 jq198_16 (jc_ne (s.r _ _) jb_r0) (fun c5 => ?_) (fun c5 => ?_)
      · have h5 := jo_n c5 h3
        refine jw_iconst (p := 29) rfl jM198 jq198_28 ?_
        refine jw_goto jM198 jq198_29 ?_
        refine jg_putI (p := 36) (i := 0) rfl jM198 jq198_33 rfl (jo_92 s.1) (Or.inl jz_11_0) s (by decide) (by decide) (jb_rn rfl) ?_
        intro σ6 s6
        refine jaL0 (p := 37) rfl jM198 jq198_36 ?_
        refine jg_getI (p := 40) (i := 0) rfl jM198 jq198_37 rfl (jo_92 s6.1) jn_11_0 s6 (by decide) (by decide) jg_uH ?_
        refine jw_if (p := 43) rfl jM198 jq198_40 (jc_le (jb_rn rfl) jb_r0) (fun z => absurd z (by decide)) (fun _ => ?_)
        refine jw_iconst (p := 44) rfl jM198 jq198_43 ?_
        cases h5
        exact jw_iret jM198 jq198_44 (fun z => absurd z (by decide)) (k σ6 s6 (jb_rn rfl))
      · have h5 := jo_p (Decidable.byContradiction c5) h3
        refine jaL0 (p := 20) rfl jM198 jq198_19 ?_
        refine jw_getP (p := 23) (i := 23) (q := 107) rfl jM198 jq198_20 rfl (jo_92 s.1) je_11_23 (jp_92_23 s.1) ?_
        refine jiL1 (p := 24) rfl jM198 jq198_23 ?_
        obtain ⟨c7, h7⟩ := jo_i h5
        refine jg_bald (p := 25) rfl jM198 jq198_24 (ja_107 s.1) c7.1 c7.2 s (by decide) rfl ?_
        refine jw_if (p := 28) rfl jM198 jq198_25 (jc_ne (s.r _ _) jb_r0) (fun c8 => ?_) (fun c8 => ?_)
        · have h8 := jo_n c8 h7
          refine jw_iconst (p := 33) rfl jM198 jq198_32 ?_
          refine jg_putI (p := 36) (i := 0) rfl jM198 jq198_33 rfl (jo_92 s.1) (Or.inl jz_11_0) s (by decide) (by decide) (jb_rn rfl) ?_
          intro σ9 s9
          refine jaL0 (p := 37) rfl jM198 jq198_36 ?_
          refine jg_getI (p := 40) (i := 0) rfl jM198 jq198_37 rfl (jo_92 s9.1) jn_11_0 s9 (by decide) (by decide) jg_uH ?_
          refine jw_if (p := 43) rfl jM198 jq198_40 (jc_le (jb_rn rfl) jb_r0) (fun _ => ?_) (fun z => absurd (by decide) z)
          refine jaL0 (p := 46) rfl jM198 jq198_45 ?_
          refine jw_getP (p := 49) (i := 26) (q := 110) rfl jM198 jq198_46 rfl (jo_92 s9.1) je_11_26 (jp_92_26 s9.1) ?_
          refine jiL1 (p := 50) rfl jM198 jq198_49 ?_
          refine jw_iconst (p := 51) rfl jM198 jq198_50 ?_
          refine jg_iast (p := 52) rfl jM198 jq198_51 (ja_110 s9.1) c7.1 c7.2 s9 (by decide) (jb_rn rfl) ?_
          intro σ10 s10
          refine jaL0 (p := 53) rfl jM198 jq198_52 ?_
          refine jw_iconst (p := 54) rfl jM198 jq198_53 ?_
          refine jiL1 (p := 55) rfl jM198 jq198_54 ?_
          refine jw_callV [(jb_v 2), (jb_v l1)] jM198 jq198_55 rfl rfl (jo_92 s10.1) rfl jM169 rfl rfl ?_
          obtain ⟨c11, h11⟩ := jo_i h8
          obtain ⟨c12, h12⟩ := jo_i h11
          obtain ⟨x13, e14, h14⟩ := jo_lb h12
          refine cs169 c11 c12 (jb_rn rfl) (fun σ13 s13 r13 => ?_) σ10 s10
          rw [e14] at r13 ⊢
          show jb_w (d + 4) 198 58 [some (.ref 92), some (jb_v l1), none] [(jb_v x13)] σ13 Q
          refine jiS2 (p := 59) rfl jM198 jq198_58 ?_
          refine jaL0 (p := 60) rfl jM198 jq198_59 ?_
          refine jiL2 (p := 61) rfl jM198 jq198_60 ?_
          refine jw_callV [(jb_v x13)] jM198 jq198_61 rfl rfl (jo_92 s13.1) rfl jM165 rfl rfl ?_
          obtain ⟨c15, h15⟩ := jo_i h14
          obtain ⟨c16, h16⟩ := jo_i h15
          obtain ⟨c17, h17⟩ := jo_i h16
          refine cs165' c15 c16 c17 (fun σ18 s18 => ?_) σ13 s13
          show jb_w (d + 4) 198 64 [some (.ref 92), some (jb_v l1), some (jb_v x13)] [] σ18 Q
          refine jaL0 (p := 65) rfl jM198 jq198_64 ?_
          refine jg_getI (p := 68) (i := 7) rfl jM198 jq198_65 rfl (jo_92 s18.1) jn_11_7 s18 (by decide) (by decide) rfl ?_
          refine jw_if (p := 71) rfl jM198 jq198_68 (jc_eq (s18.r _ _) jb_r0) (fun c19 => ?_) (fun c19 => ?_)
          · have h19 := jo_p c19 h17
            refine jaL0 (p := 75) rfl jM198 jq198_74 ?_
            refine jiL1 (p := 76) rfl jM198 jq198_75 ?_
            refine jw_callV [(jb_v l1)] jM198 jq198_76 rfl rfl (jo_92 s18.1) rfl jM185 rfl rfl ?_
            obtain ⟨c20, h20⟩ := jo_i h19
            refine cs185 c20 (fun σ21 s21 => ?_) σ18 s18
            show jb_w (d + 4) 198 79 [some (.ref 92), some (jb_v l1), some (jb_v x13)] [] σ21 Q
            refine jiL2 (p := 80) rfl jM198 jq198_79 ?_
            cases h20
            exact jw_iret jM198 jq198_80 (fun z => absurd z (by decide)) (k σ21 s21 r13)
          · have h19 := jo_n c19 h17
            refine jw_bipush (p := 73) rfl jM198 jq198_71 (by decide) ?_
            cases h19
            exact jw_iret jM198 jq198_73 (fun z => absurd z (by decide)) (k σ18 s18 (jb_rn rfl))
        · have h8 := jo_p (Decidable.byContradiction c8) h7
          refine jw_iconst (p := 29) rfl jM198 jq198_28 ?_
          refine jw_goto jM198 jq198_29 ?_
          refine jg_putI (p := 36) (i := 0) rfl jM198 jq198_33 rfl (jo_92 s.1) (Or.inl jz_11_0) s (by decide) (by decide) (jb_rn rfl) ?_
          intro σ22 s22
          refine jaL0 (p := 37) rfl jM198 jq198_36 ?_
          refine jg_getI (p := 40) (i := 0) rfl jM198 jq198_37 rfl (jo_92 s22.1) jn_11_0 s22 (by decide) (by decide) jg_uH ?_
          refine jw_if (p := 43) rfl jM198 jq198_40 (jc_le (jb_rn rfl) jb_r0) (fun z => absurd z (by decide)) (fun _ => ?_)
          refine jw_iconst (p := 44) rfl jM198 jq198_43 ?_
          cases h8
          exact jw_iret jM198 jq198_44 (fun z => absurd z (by decide)) (k σ22 s22 (jb_rn rfl))
-- 199 undo need 12
def fo199 (G : jg_G) (l1 : Int) : Option (jg_G × Int) := if l1 < 0 then (some (jg_u G 92 0 1, 0)) else (if 3 < l1 then (some (jg_u G 92 0 1, 0)) else (if G 92 7 = 0 then (if 0 ≤ l1 ∧ l1 < 4 then if G 107 l1 = 0 then (some (jg_u G 92 0 2, 0)) else ((fo188 (jg_u G 92 0 0) l1).bind fun x10 => if (x10.1) 92 7 = 0 then (some (x10.1, x10.2)) else (some (x10.1, (-4)))) else none) else (some (jg_u G 92 0 2, 0))))
theorem jf199 {d : Nat} {σ0 : ib_H} {Q : ib_O → Prop} {G : jg_G} {l1 : Int} (hl1 : jb_r l1) {r : jg_G × Int} (h : fo199 G l1 = some r) (k : ∀ σ, jg_S σ0 r.1 σ → jb_r r.2 → Q (.inl (some (jb_v r.2)), σ)) : jg_W σ0 G (d + 12) 199 0 [some (.ref 92), some (jb_v l1), none] [] Q := by
  intro σ s
  unfold fo199 at h
  refine jaL0 (p := 1) rfl jM199 jq199_0 ?_
  refine jiL1 (p := 2) rfl jM199 jq199_1 ?_
  refine jw_callS [(jb_v l1)] jM199 jq199_2 rfl rfl rfl jM184 rfl rfl ?_
  show jb_w (d + 11) 184 0 [some (jb_v l1)] [] σ (jb_k (d + 12) 199 2 [some (.ref 92), some (jb_v l1), none] [(.ref 92)] Q)
  refine jiL0 (p := 1) rfl jM184 jq184_0 ?_
  refine jw_iconst (p := 2) rfl jM184 jq184_1 ?_
  refine jw_iconst (p := 3) rfl jM184 jq184_2 ?_
  refine jw_callS [(jb_v l1), (jb_v 0), (jb_v 3)] jM184 jq184_3 rfl rfl rfl jM147 rfl rfl ?_
  show jb_w (d + 10) 147 0 [some (jb_v l1), some (jb_v 0), some (jb_v 3)] [] σ (jb_k (d + 11) 184 3 [some (jb_v l1)] [] (jb_k (d + 12) 199 2 [some (.ref 92), some (jb_v l1), none] [(.ref 92)] Q))
  refine jiL0 (p := 1) rfl jM147 jq147_0 ?_
  refine jiL1 (p := 2) rfl jM147 jq147_1 ?_
  refine jw_ic (p := 5) rfl jM147 jq147_2 (jc_lt hl1 (jb_rn rfl)) (fun c1 => ?_) (fun c1 => ?_)
  · have h1 := jo_p c1 h
    refine jw_iconst (p := 15) rfl jM147 jq147_14 ?_
    refine jw_iret jM147 jq147_15 (fun _ => Or.inl rfl) ?_
    show jb_w (d + 11) 184 6 [some (jb_v l1)] [(jb_v 0)] σ (jb_k (d + 12) 199 2 [some (.ref 92), some (jb_v l1), none] [(.ref 92)] Q)
    refine jw_iret jM184 jq184_6 (fun _ => Or.inl rfl) ?_
    show jb_w (d + 12) 199 5 [some (.ref 92), some (jb_v l1), none] [(jb_v 0), (.ref 92)] σ Q
    refine jw_if (p := 8) rfl jM199 jq199_5 (jc_ne (jb_rn rfl) jb_r0) (fun z => absurd z (by decide)) (fun _ => ?_)
    refine jw_iconst (p := 9) rfl jM199 jq199_8 ?_
    refine jw_goto jM199 jq199_9 ?_
    refine jg_putI (p := 36) (i := 0) rfl jM199 jq199_33 rfl (jo_92 s.1) (Or.inl jz_11_0) s (by decide) (by decide) (jb_rn rfl) ?_
    intro σ2 s2
    refine jaL0 (p := 37) rfl jM199 jq199_36 ?_
    refine jg_getI (p := 40) (i := 0) rfl jM199 jq199_37 rfl (jo_92 s2.1) jn_11_0 s2 (by decide) (by decide) jg_uH ?_
    refine jw_if (p := 43) rfl jM199 jq199_40 (jc_le (jb_rn rfl) jb_r0) (fun z => absurd z (by decide)) (fun _ => ?_)
    refine jw_iconst (p := 44) rfl jM199 jq199_43 ?_
    cases h1
    exact jw_iret jM199 jq199_44 (fun z => absurd z (by decide)) (k σ2 s2 (jb_rn rfl))
  · have h1 := jo_n c1 h
    refine jiL0 (p := 6) rfl jM147 jq147_5 ?_
    refine jiL2 (p := 7) rfl jM147 jq147_6 ?_
    refine jw_ic (p := 10) rfl jM147 jq147_7 (jc_gt hl1 (jb_rn rfl)) (fun c3 => ?_) (fun c3 => ?_)
    · have h3 := jo_p c3 h1
      refine jw_iconst (p := 15) rfl jM147 jq147_14 ?_
      refine jw_iret jM147 jq147_15 (fun _ => Or.inl rfl) ?_
      show jb_w (d + 11) 184 6 [some (jb_v l1)] [(jb_v 0)] σ (jb_k (d + 12) 199 2 [some (.ref 92), some (jb_v l1), none] [(.ref 92)] Q)
      refine jw_iret jM184 jq184_6 (fun _ => Or.inl rfl) ?_
      show jb_w (d + 12) 199 5 [some (.ref 92), some (jb_v l1), none] [(jb_v 0), (.ref 92)] σ Q
      refine jw_if (p := 8) rfl jM199 jq199_5 (jc_ne (jb_rn rfl) jb_r0) (fun z => absurd z (by decide)) (fun _ => ?_)
      refine jw_iconst (p := 9) rfl jM199 jq199_8 ?_
      refine jw_goto jM199 jq199_9 ?_
      refine jg_putI (p := 36) (i := 0) rfl jM199 jq199_33 rfl (jo_92 s.1) (Or.inl jz_11_0) s (by decide) (by decide) (jb_rn rfl) ?_
      intro σ4 s4
      refine jaL0 (p := 37) rfl jM199 jq199_36 ?_
      refine jg_getI (p := 40) (i := 0) rfl jM199 jq199_37 rfl (jo_92 s4.1) jn_11_0 s4 (by decide) (by decide) jg_uH ?_
      refine jw_if (p := 43) rfl jM199 jq199_40 (jc_le (jb_rn rfl) jb_r0) (fun z => absurd z (by decide)) (fun _ => ?_)
      refine jw_iconst (p := 44) rfl jM199 jq199_43 ?_
      cases h3
      exact jw_iret jM199 jq199_44 (fun z => absurd z (by decide)) (k σ4 s4 (jb_rn rfl))
    · have h3 := jo_n c3 h1
      refine jw_iconst (p := 11) rfl jM147 jq147_10 ?_
      refine jw_goto jM147 jq147_11 ?_
      refine jw_iret jM147 jq147_15 (fun _ => Or.inr rfl) ?_
      show jb_w (d + 11) 184 6 [some (jb_v l1)] [(jb_v 1)] σ (jb_k (d + 12) 199 2 [some (.ref 92), some (jb_v l1), none] [(.ref 92)] Q)
      refine jw_iret jM184 jq184_6 (fun _ => Or.inr rfl) ?_
      show jb_w (d + 12) 199 5 [some (.ref 92), some (jb_v l1), none] [(jb_v 1), (.ref 92)] σ Q
      refine jw_if (p := 8) rfl jM199 jq199_5 (jc_ne (jb_rn rfl) jb_r0) (fun _ => ?_) (fun z => absurd (by decide) z)
      refine jaL0 (p := 13) rfl jM199 jq199_12 ?_
      refine jg_getI (p := 16) (i := 7) rfl jM199 jq199_13 rfl (jo_92 s.1) jn_11_7 s (by decide) (by decide) rfl ?_
      refine jw_if (p := 19) rfl jM199 jq199_16 (jc_ne (s.r _ _) jb_r0) (fun c5 => ?_) (fun c5 => ?_)
      · have h5 := jo_n c5 h3
        refine jw_iconst (p := 29) rfl jM199 jq199_28 ?_
        refine jw_goto jM199 jq199_29 ?_
        refine jg_putI (p := 36) (i := 0) rfl jM199 jq199_33 rfl (jo_92 s.1) (Or.inl jz_11_0) s (by decide) (by decide) (jb_rn rfl) ?_
        intro σ6 s6
        refine jaL0 (p := 37) rfl jM199 jq199_36 ?_
        refine jg_getI (p := 40) (i := 0) rfl jM199 jq199_37 rfl (jo_92 s6.1) jn_11_0 s6 (by decide) (by decide) jg_uH ?_
        refine jw_if (p := 43) rfl jM199 jq199_40 (jc_le (jb_rn rfl) jb_r0) (fun z => absurd z (by decide)) (fun _ => ?_)
        refine jw_iconst (p := 44) rfl jM199 jq199_43 ?_
        cases h5
        exact jw_iret jM199 jq199_44 (fun z => absurd z (by decide)) (k σ6 s6 (jb_rn rfl))
      · have h5 := jo_p (Decidable.byContradiction c5) h3
        refine jaL0 (p := 20) rfl jM199 jq199_19 ?_
        refine jw_getP (p := 23) (i := 23) (q := 107) rfl jM199 jq199_20 rfl (jo_92 s.1) je_11_23 (jp_92_23 s.1) ?_
        refine jiL1 (p := 24) rfl jM199 jq199_23 ?_
        obtain ⟨c7, h7⟩ := jo_i h5
        refine jg_bald (p := 25) rfl jM199 jq199_24 (ja_107 s.1) c7.1 c7.2 s (by decide) rfl ?_
        refine jw_if (p := 28) rfl jM199 jq199_25 (jc_ne (s.r _ _) jb_r0) (fun c8 => ?_) (fun c8 => ?_)
        · have h8 := jo_n c8 h7
          refine jw_iconst (p := 33) rfl jM199 jq199_32 ?_
          refine jg_putI (p := 36) (i := 0) rfl jM199 jq199_33 rfl (jo_92 s.1) (Or.inl jz_11_0) s (by decide) (by decide) (jb_rn rfl) ?_
          intro σ9 s9
          refine jaL0 (p := 37) rfl jM199 jq199_36 ?_
          refine jg_getI (p := 40) (i := 0) rfl jM199 jq199_37 rfl (jo_92 s9.1) jn_11_0 s9 (by decide) (by decide) jg_uH ?_
          refine jw_if (p := 43) rfl jM199 jq199_40 (jc_le (jb_rn rfl) jb_r0) (fun _ => ?_) (fun z => absurd (by decide) z)
          refine jaL0 (p := 46) rfl jM199 jq199_45 ?_
          refine jiL1 (p := 47) rfl jM199 jq199_46 ?_
          refine jw_callV [(jb_v l1)] jM199 jq199_47 rfl rfl (jo_92 s9.1) rfl jM188 rfl rfl ?_
          obtain ⟨x10, b11, h11⟩ := jo_b h8
          refine jf188 hl1 b11 (fun σ10 s10 r10 => ?_) σ9 s9
          show jb_w (d + 12) 199 50 [some (.ref 92), some (jb_v l1), none] [(jb_v (x10.2))] σ10 Q
          refine jiS2 (p := 51) rfl jM199 jq199_50 ?_
          refine jaL0 (p := 52) rfl jM199 jq199_51 ?_
          refine jg_getI (p := 55) (i := 7) rfl jM199 jq199_52 rfl (jo_92 s10.1) jn_11_7 s10 (by decide) (by decide) rfl ?_
          refine jw_if (p := 58) rfl jM199 jq199_55 (jc_eq (s10.r _ _) jb_r0) (fun c12 => ?_) (fun c12 => ?_)
          · have h12 := jo_p c12 h11
            refine jiL2 (p := 64) rfl jM199 jq199_63 ?_
            cases h12
            exact jw_iret jM199 jq199_64 (fun z => absurd z (by decide)) (k σ10 s10 r10)
          · have h12 := jo_n c12 h11
            refine jw_bipush (p := 60) rfl jM199 jq199_58 (by decide) ?_
            refine jw_goto jM199 jq199_60 ?_
            cases h12
            exact jw_iret jM199 jq199_64 (fun z => absurd z (by decide)) (k σ10 s10 (jb_rn rfl))
        · have h8 := jo_p (Decidable.byContradiction c8) h7
          refine jw_iconst (p := 29) rfl jM199 jq199_28 ?_
          refine jw_goto jM199 jq199_29 ?_
          refine jg_putI (p := 36) (i := 0) rfl jM199 jq199_33 rfl (jo_92 s.1) (Or.inl jz_11_0) s (by decide) (by decide) (jb_rn rfl) ?_
          intro σ13 s13
          refine jaL0 (p := 37) rfl jM199 jq199_36 ?_
          refine jg_getI (p := 40) (i := 0) rfl jM199 jq199_37 rfl (jo_92 s13.1) jn_11_0 s13 (by decide) (by decide) jg_uH ?_
          refine jw_if (p := 43) rfl jM199 jq199_40 (jc_le (jb_rn rfl) jb_r0) (fun z => absurd z (by decide)) (fun _ => ?_)
          refine jw_iconst (p := 44) rfl jM199 jq199_43 ?_
          cases h8
          exact jw_iret jM199 jq199_44 (fun z => absurd z (by decide)) (k σ13 s13 (jb_rn rfl))
-- 200 mark need 4
def fo200_80 : Nat → jg_G → Int → Int → Int → Option (jg_G × Int)
  | 0, _, _, _, _ => none
  | m + 1, G, l1, l2, l3 => if 24 ≤ l3 then (if 0 ≤ l1 ∧ l1 < 1501 then if 0 ≤ G 92 6 ∧ G 92 6 < 1000 then if 0 ≤ G 92 13 then if (fr_ha G l1) 92 7 = 0 then (some (fr_ha G l1, l1)) else (some (fr_ha G l1, (-4))) else none else none else none) else (jo_l (fr_fo G l3) fun x7 => if x7 = (-1) then (if 0 ≤ ((l2 + 4) + l3) ∧ ((l2 + 4) + l3) < 305118 then if -2147483648 ≤ (l3 + 1) ∧ (l3 + 1) < 2147483648 then fo200_80 m (jg_u G 93 ((l2 + 4) + l3) 0) l1 l2 (l3 + 1) else none else none) else (if 0 ≤ x7 ∧ x7 < 4 then if 0 ≤ ((l2 + 4) + l3) ∧ ((l2 + 4) + l3) < 305118 then if -2147483648 ≤ (l3 + 1) ∧ (l3 + 1) < 2147483648 then fo200_80 m (jg_u G 93 ((l2 + 4) + l3) (G 97 x7)) l1 l2 (l3 + 1) else none else none else none))
theorem jf200_80 {d : Nat} {σ0 : ib_H} {Q : ib_O → Prop} : ∀ (m : Nat) {G : jg_G} {l1 : Int} {l2 : Int} {l3 : Int} {o4 : Option Value} (hl1 : jb_r l1) (hl2 : jb_r l2) (hl3 : jb_r l3) {r : jg_G × Int} (h : fo200_80 m G l1 l2 l3 = some r) (k : ∀ σ, jg_S σ0 r.1 σ → jb_r r.2 → Q (.inl (some (jb_v r.2)), σ)), jg_W σ0 G (d + 4) 200 80 [some (.ref 92), some (jb_v l1), some (jb_v l2), some (jb_v l3), o4] [] Q := by
  intro m
  induction m with
  | zero =>
    intro G l1 l2 l3 o4 hl1 hl2 hl3 r h k
    cases h
  | succ m ih =>
    intro G l1 l2 l3 o4 hl1 hl2 hl3 r h k σ s
    unfold fo200_80 at h
    refine jiL3 (p := 81) rfl jM200 jq200_80 ?_
    refine jw_bipush (p := 83) rfl jM200 jq200_81 (by decide) ?_
    refine jw_ic (p := 86) rfl jM200 jq200_83 (jc_ge hl3 (jb_rn rfl)) (fun c1 => ?_) (fun c1 => ?_)
    · have h1 := jo_p c1 h
      refine jaL0 (p := 127) rfl jM200 jq200_126 ?_
      refine jiL1 (p := 128) rfl jM200 jq200_127 ?_
      refine jw_callV [(jb_v l1)] jM200 jq200_128 rfl rfl (jo_92 s.1) rfl jM165 rfl rfl ?_
      obtain ⟨c2, h2⟩ := jo_i h1
      obtain ⟨c3, h3⟩ := jo_i h2
      obtain ⟨c4, h4⟩ := jo_i h3
      refine cs165' c2 c3 c4 (fun σ5 s5 => ?_) σ s
      show jb_w (d + 4) 200 131 [some (.ref 92), some (jb_v l1), some (jb_v l2), some (jb_v l3), o4] [] σ5 Q
      refine jaL0 (p := 132) rfl jM200 jq200_131 ?_
      refine jg_getI (p := 135) (i := 7) rfl jM200 jq200_132 rfl (jo_92 s5.1) jn_11_7 s5 (by decide) (by decide) rfl ?_
      refine jw_if (p := 138) rfl jM200 jq200_135 (jc_eq (s5.r _ _) jb_r0) (fun c6 => ?_) (fun c6 => ?_)
      · have h6 := jo_p c6 h4
        refine jiL1 (p := 144) rfl jM200 jq200_143 ?_
        cases h6
        exact jw_iret jM200 jq200_144 (fun z => absurd z (by decide)) (k σ5 s5 hl1)
      · have h6 := jo_n c6 h4
        refine jw_bipush (p := 140) rfl jM200 jq200_138 (by decide) ?_
        refine jw_goto jM200 jq200_140 ?_
        cases h6
        exact jw_iret jM200 jq200_144 (fun z => absurd z (by decide)) (k σ5 s5 (jb_rn rfl))
    · have h1 := jo_n c1 h
      refine jaL0 (p := 87) rfl jM200 jq200_86 ?_
      refine jiL3 (p := 88) rfl jM200 jq200_87 ?_
      refine jw_callV [(jb_v l3)] jM200 jq200_88 rfl rfl (jo_92 s.1) rfl jM160 rfl rfl ?_
      obtain ⟨x7, e8, h8⟩ := jo_lb h1
      refine cs160 hl3 (fun σ7 s7 r7 => ?_) σ s
      rw [e8] at r7 ⊢
      show jb_w (d + 4) 200 91 [some (.ref 92), some (jb_v l1), some (jb_v l2), some (jb_v l3), o4] [(jb_v x7)] σ7 Q
      refine jiS4 (p := 93) rfl jM200 jq200_91 ?_
      refine jaL0 (p := 94) rfl jM200 jq200_93 ?_
      refine jw_getP (p := 97) (i := 1) (q := 93) rfl jM200 jq200_94 rfl (jo_92 s7.1) je_11_1 (jp_92_1 s7.1) ?_
      refine jiL2 (p := 98) rfl jM200 jq200_97 ?_
      refine jw_iconst (p := 99) rfl jM200 jq200_98 ?_
      refine jw_iadd (p := 100) rfl jM200 jq200_99 ?_
      refine jiL3 (p := 101) rfl jM200 jq200_100 ?_
      refine jw_iadd (p := 102) rfl jM200 jq200_101 ?_
      refine jiL4 (p := 104) rfl jM200 jq200_102 ?_
      refine jw_iconst (p := 105) rfl jM200 jq200_104 ?_
      refine jw_ic (p := 108) rfl jM200 jq200_105 (jc_ne r7 (jb_rn rfl)) (fun c9 => ?_) (fun c9 => ?_)
      · have h9 := jo_n c9 h8
        refine jaL0 (p := 113) rfl jM200 jq200_112 ?_
        refine jw_getP (p := 116) (i := 11) (q := 97) rfl jM200 jq200_113 rfl (jo_92 s7.1) je_11_11 (jp_92_11 s7.1) ?_
        refine jiL4 (p := 118) rfl jM200 jq200_116 ?_
        obtain ⟨c10, h10⟩ := jo_i h9
        refine jg_iald (p := 119) rfl jM200 jq200_118 (ja_97 s7.1) c10.1 c10.2 s7 (by decide) rfl ?_
        obtain ⟨c11, h11⟩ := jo_i h10
        refine jg_iast (p := 120) rfl jM200 jq200_119 (ja_93 s7.1) c11.1 c11.2 s7 (by decide) (s.r _ _) ?_
        intro σ12 s12
        refine jiI3 (p := 123) rfl jM200 jq200_120 ?_
        refine jw_goto jM200 jq200_123 ?_
        obtain ⟨c13, h13⟩ := jo_i h11
        exact ih hl1 hl2 c13 h13 k σ12 s12
      · have h9 := jo_p (Decidable.byContradiction c9) h8
        refine jw_iconst (p := 109) rfl jM200 jq200_108 ?_
        refine jw_goto jM200 jq200_109 ?_
        obtain ⟨c14, h14⟩ := jo_i h9
        refine jg_iast (p := 120) rfl jM200 jq200_119 (ja_93 s7.1) c14.1 c14.2 s7 (by decide) (jb_rn rfl) ?_
        intro σ15 s15
        refine jiI3 (p := 123) rfl jM200 jq200_120 ?_
        refine jw_goto jM200 jq200_123 ?_
        obtain ⟨c16, h16⟩ := jo_i h14
        exact ih hl1 hl2 c16 h16 k σ15 s15
def fo200_53 : Nat → jg_G → Int → Int → Int → Option (jg_G × Int)
  | 0, _, _, _, _ => none
  | m + 1, G, l1, l2, l3 => if 4 ≤ l3 then (fo200_80 jo_N G l1 l2 0) else (if 0 ≤ l3 ∧ l3 < 4 then if 0 ≤ (l2 + l3) ∧ (l2 + l3) < 305118 then if -2147483648 ≤ (l3 + 1) ∧ (l3 + 1) < 2147483648 then fo200_53 m (jg_u G 93 (l2 + l3) (G 108 l3)) l1 l2 (l3 + 1) else none else none else none)
theorem jf200_53 {d : Nat} {σ0 : ib_H} {Q : ib_O → Prop} : ∀ (m : Nat) {G : jg_G} {l1 : Int} {l2 : Int} {l3 : Int} (hl1 : jb_r l1) (hl2 : jb_r l2) (hl3 : jb_r l3) {r : jg_G × Int} (h : fo200_53 m G l1 l2 l3 = some r) (k : ∀ σ, jg_S σ0 r.1 σ → jb_r r.2 → Q (.inl (some (jb_v r.2)), σ)), jg_W σ0 G (d + 4) 200 53 [some (.ref 92), some (jb_v l1), some (jb_v l2), some (jb_v l3), none] [] Q := by
  intro m
  induction m with
  | zero =>
    intro G l1 l2 l3 hl1 hl2 hl3 r h k
    cases h
  | succ m ih =>
    intro G l1 l2 l3 hl1 hl2 hl3 r h k σ s
    unfold fo200_53 at h
    refine jiL3 (p := 54) rfl jM200 jq200_53 ?_
    refine jw_iconst (p := 55) rfl jM200 jq200_54 ?_
    refine jw_ic (p := 58) rfl jM200 jq200_55 (jc_ge hl3 (jb_rn rfl)) (fun c1 => ?_) (fun c1 => ?_)
    · have h1 := jo_p c1 h
      refine jw_iconst (p := 79) rfl jM200 jq200_78 ?_
      refine jiS3 (p := 80) rfl jM200 jq200_79 ?_
      exact jf200_80 jo_N hl1 hl2 (jb_rn rfl) h1 k σ s
    · have h1 := jo_n c1 h
      refine jaL0 (p := 59) rfl jM200 jq200_58 ?_
      refine jw_getP (p := 62) (i := 1) (q := 93) rfl jM200 jq200_59 rfl (jo_92 s.1) je_11_1 (jp_92_1 s.1) ?_
      refine jiL2 (p := 63) rfl jM200 jq200_62 ?_
      refine jiL3 (p := 64) rfl jM200 jq200_63 ?_
      refine jw_iadd (p := 65) rfl jM200 jq200_64 ?_
      refine jaL0 (p := 66) rfl jM200 jq200_65 ?_
      refine jw_getP (p := 69) (i := 24) (q := 108) rfl jM200 jq200_66 rfl (jo_92 s.1) je_11_24 (jp_92_24 s.1) ?_
      refine jiL3 (p := 70) rfl jM200 jq200_69 ?_
      obtain ⟨c2, h2⟩ := jo_i h1
      refine jg_iald (p := 71) rfl jM200 jq200_70 (ja_108 s.1) c2.1 c2.2 s (by decide) rfl ?_
      obtain ⟨c3, h3⟩ := jo_i h2
      refine jg_iast (p := 72) rfl jM200 jq200_71 (ja_93 s.1) c3.1 c3.2 s (by decide) (s.r _ _) ?_
      intro σ4 s4
      refine jiI3 (p := 75) rfl jM200 jq200_72 ?_
      refine jw_goto jM200 jq200_75 ?_
      obtain ⟨c5, h5⟩ := jo_i h3
      exact ih hl1 hl2 c5 h5 k σ4 s4
def fo200 (G : jg_G) : Option (jg_G × Int) := if G 92 7 = 0 then (if G 92 12 < 200 then (if 0 ≤ (jg_u G 92 0 0) 92 12 ∧ (jg_u G 92 0 0) 92 12 < 1500 then if -1 ≤ ((-1) : Int) ∧ ((-1) : Int) < 4 then jo_l ((jg_u G 92 0 0) 92 12 + 1) fun x7 => if -2147483648 ≤ (67 * ((54 + (3 * (x7 - 1))) + 0)) ∧ (67 * ((54 + (3 * (x7 - 1))) + 0)) < 2147483648 then fo200_53 jo_N (fr_no (jg_u G 92 0 0) (4 : Int) ((-1) : Int)) x7 (67 * ((54 + (3 * (x7 - 1))) + 0)) 0 else none else none else none) else (some (jg_u G 92 0 1, 0))) else (some (jg_u G 92 0 1, 0))
theorem jf200 {d : Nat} {σ0 : ib_H} {Q : ib_O → Prop} {G : jg_G} {r : jg_G × Int} (h : fo200 G  = some r) (k : ∀ σ, jg_S σ0 r.1 σ → jb_r r.2 → Q (.inl (some (jb_v r.2)), σ)) : jg_W σ0 G (d + 4) 200 0 [some (.ref 92), none, none, none, none] [] Q := by
  intro σ s
  unfold fo200 at h
  refine jaL0 (p := 1) rfl jM200 jq200_0 ?_
  refine jaL0 (p := 2) rfl jM200 jq200_1 ?_
  refine jg_getI (p := 5) (i := 7) rfl jM200 jq200_2 rfl (jo_92 s.1) jn_11_7 s (by decide) (by decide) rfl ?_
  refine jw_if (p := 8) rfl jM200 jq200_5 (jc_ne (s.r _ _) jb_r0) (fun c1 => ?_) (fun c1 => ?_)
  · have h1 := jo_n c1 h
    refine jw_iconst (p := 19) rfl jM200 jq200_18 ?_
    refine jw_goto jM200 jq200_19 ?_
    refine jg_putI (p := 26) (i := 0) rfl jM200 jq200_23 rfl (jo_92 s.1) (Or.inl jz_11_0) s (by decide) (by decide) (jb_rn rfl) ?_
    intro σ2 s2
    refine jaL0 (p := 27) rfl jM200 jq200_26 ?_
    refine jg_getI (p := 30) (i := 0) rfl jM200 jq200_27 rfl (jo_92 s2.1) jn_11_0 s2 (by decide) (by decide) jg_uH ?_
    refine jw_if (p := 33) rfl jM200 jq200_30 (jc_le (jb_rn rfl) jb_r0) (fun z => absurd z (by decide)) (fun _ => ?_)
    refine jw_iconst (p := 34) rfl jM200 jq200_33 ?_
    cases h1
    exact jw_iret jM200 jq200_34 (fun z => absurd z (by decide)) (k σ2 s2 (jb_rn rfl))
  · have h1 := jo_p (Decidable.byContradiction c1) h
    refine jaL0 (p := 9) rfl jM200 jq200_8 ?_
    refine jg_getI (p := 12) (i := 12) rfl jM200 jq200_9 rfl (jo_92 s.1) jn_11_12 s (by decide) (by decide) rfl ?_
    refine jw_sipush (p := 15) rfl jM200 jq200_12 (by decide) ?_
    refine jw_ic (p := 18) rfl jM200 jq200_15 (jc_lt (s.r _ _) (jb_rn rfl)) (fun c3 => ?_) (fun c3 => ?_)
    · have h3 := jo_p c3 h1
      refine jw_iconst (p := 23) rfl jM200 jq200_22 ?_
      refine jg_putI (p := 26) (i := 0) rfl jM200 jq200_23 rfl (jo_92 s.1) (Or.inl jz_11_0) s (by decide) (by decide) (jb_rn rfl) ?_
      intro σ4 s4
      refine jaL0 (p := 27) rfl jM200 jq200_26 ?_
      refine jg_getI (p := 30) (i := 0) rfl jM200 jq200_27 rfl (jo_92 s4.1) jn_11_0 s4 (by decide) (by decide) jg_uH ?_
      refine jw_if (p := 33) rfl jM200 jq200_30 (jc_le (jb_rn rfl) jb_r0) (fun _ => ?_) (fun z => absurd (by decide) z)
      refine jaL0 (p := 36) rfl jM200 jq200_35 ?_
      refine jw_iconst (p := 37) rfl jM200 jq200_36 ?_
      refine jw_iconst (p := 38) rfl jM200 jq200_37 ?_
      refine jw_callV [(jb_v 4), (jb_v (-1))] jM200 jq200_38 rfl rfl (jo_92 s4.1) rfl jM169 rfl rfl ?_
      obtain ⟨c5, h5⟩ := jo_i h3
      obtain ⟨c6, h6⟩ := jo_i h5
      obtain ⟨x7, e8, h8⟩ := jo_lb h6
      refine cs169 c5 c6 (jb_rn rfl) (fun σ7 s7 r7 => ?_) σ4 s4
      rw [e8] at r7 ⊢
      show jb_w (d + 4) 200 41 [some (.ref 92), none, none, none, none] [(jb_v x7)] σ7 Q
      refine jiS1 (p := 42) rfl jM200 jq200_41 ?_
      refine jw_bipush (p := 44) rfl jM200 jq200_42 (by decide) ?_
      refine jiL1 (p := 45) rfl jM200 jq200_44 ?_
      refine jw_iconst (p := 46) rfl jM200 jq200_45 ?_
      refine jw_callS [(jb_v x7), (jb_v 0)] jM200 jq200_46 rfl rfl rfl jM170 rfl rfl ?_
      show jb_w (d + 3) 170 0 [some (jb_v x7), some (jb_v 0)] [] σ7 (jb_k (d + 4) 200 46 [some (.ref 92), some (jb_v x7), none, none, none] [(jb_v 67)] Q)
      refine jw_bipush (p := 2) rfl jM170 jq170_0 (by decide) ?_
      refine jw_iconst (p := 3) rfl jM170 jq170_2 ?_
      refine jiL0 (p := 4) rfl jM170 jq170_3 ?_
      refine jw_iconst (p := 5) rfl jM170 jq170_4 ?_
      refine jw_isub (p := 6) rfl jM170 jq170_5 ?_
      refine jw_imul (p := 7) rfl jM170 jq170_6 ?_
      refine jw_iadd (p := 8) rfl jM170 jq170_7 ?_
      refine jiL1 (p := 9) rfl jM170 jq170_8 ?_
      refine jw_iadd (p := 10) rfl jM170 jq170_9 ?_
      refine jw_iret jM170 jq170_10 (fun z => absurd z (by decide)) ?_
      show jb_w (d + 4) 200 49 [some (.ref 92), some (jb_v x7), none, none, none] [(jb_v ((54 + (3 * (x7 - 1))) + 0)), (jb_v 67)] σ7 Q
      refine jw_imul (p := 50) rfl jM200 jq200_49 ?_
      refine jiS2 (p := 51) rfl jM200 jq200_50 ?_
      refine jw_iconst (p := 52) rfl jM200 jq200_51 ?_
      refine jiS3 (p := 53) rfl jM200 jq200_52 ?_
      obtain ⟨c9, h9⟩ := jo_i h8
      exact jf200_53 jo_N r7 c9 (jb_rn rfl) h9 k σ7 s7
    · have h3 := jo_n c3 h1
      refine jw_iconst (p := 19) rfl jM200 jq200_18 ?_
      refine jw_goto jM200 jq200_19 ?_
      refine jg_putI (p := 26) (i := 0) rfl jM200 jq200_23 rfl (jo_92 s.1) (Or.inl jz_11_0) s (by decide) (by decide) (jb_rn rfl) ?_
      intro σ10 s10
      refine jaL0 (p := 27) rfl jM200 jq200_26 ?_
      refine jg_getI (p := 30) (i := 0) rfl jM200 jq200_27 rfl (jo_92 s10.1) jn_11_0 s10 (by decide) (by decide) jg_uH ?_
      refine jw_if (p := 33) rfl jM200 jq200_30 (jc_le (jb_rn rfl) jb_r0) (fun z => absurd z (by decide)) (fun _ => ?_)
      refine jw_iconst (p := 34) rfl jM200 jq200_33 ?_
      cases h3
      exact jw_iret jM200 jq200_34 (fun z => absurd z (by decide)) (k σ10 s10 (jb_rn rfl))
-- 201 write need 5
def fo201 (G : jg_G) (l1 : Int) : Option (jg_G × Int) := if l1 < 0 then (some (jg_u G 92 0 1, 0)) else (if 23 < l1 then (some (jg_u G 92 0 1, 0)) else (if G 92 7 = 0 then (jo_l (fr_fo (jg_u G 92 0 0) l1) fun x7 => if x7 = (-1) then (some (jg_u G 92 0 0, 0)) else (if 0 ≤ x7 ∧ x7 < 4 then if G 97 x7 = 0 then (some (jg_u G 92 0 0, 0)) else ((fo167 (jg_u G 92 0 0) x7).bind fun x12 => if (x12.1) 92 7 = 0 then (some (x12.1, 1)) else (some (x12.1, (-4)))) else none)) else (some (jg_u G 92 0 2, 0))))
theorem jf201 {d : Nat} {σ0 : ib_H} {Q : ib_O → Prop} {G : jg_G} {l1 : Int} (hl1 : jb_r l1) {r : jg_G × Int} (h : fo201 G l1 = some r) (k : ∀ σ, jg_S σ0 r.1 σ → jb_r r.2 → Q (.inl (some (jb_v r.2)), σ)) : jg_W σ0 G (d + 5) 201 0 [some (.ref 92), some (jb_v l1), none] [] Q := by
  intro σ s
  unfold fo201 at h
  refine jaL0 (p := 1) rfl jM201 jq201_0 ?_
  refine jiL1 (p := 2) rfl jM201 jq201_1 ?_
  refine jw_iconst (p := 3) rfl jM201 jq201_2 ?_
  refine jw_bipush (p := 5) rfl jM201 jq201_3 (by decide) ?_
  refine jw_callS [(jb_v l1), (jb_v 0), (jb_v 23)] jM201 jq201_5 rfl rfl rfl jM147 rfl rfl ?_
  show jb_w (d + 4) 147 0 [some (jb_v l1), some (jb_v 0), some (jb_v 23)] [] σ (jb_k (d + 5) 201 5 [some (.ref 92), some (jb_v l1), none] [(.ref 92)] Q)
  refine jiL0 (p := 1) rfl jM147 jq147_0 ?_
  refine jiL1 (p := 2) rfl jM147 jq147_1 ?_
  refine jw_ic (p := 5) rfl jM147 jq147_2 (jc_lt hl1 (jb_rn rfl)) (fun c1 => ?_) (fun c1 => ?_)
  · have h1 := jo_p c1 h
    refine jw_iconst (p := 15) rfl jM147 jq147_14 ?_
    refine jw_iret jM147 jq147_15 (fun _ => Or.inl rfl) ?_
    show jb_w (d + 5) 201 8 [some (.ref 92), some (jb_v l1), none] [(jb_v 0), (.ref 92)] σ Q
    refine jw_if (p := 11) rfl jM201 jq201_8 (jc_ne (jb_rn rfl) jb_r0) (fun z => absurd z (by decide)) (fun _ => ?_)
    refine jw_iconst (p := 12) rfl jM201 jq201_11 ?_
    refine jw_goto jM201 jq201_12 ?_
    refine jg_putI (p := 30) (i := 0) rfl jM201 jq201_27 rfl (jo_92 s.1) (Or.inl jz_11_0) s (by decide) (by decide) (jb_rn rfl) ?_
    intro σ2 s2
    refine jaL0 (p := 31) rfl jM201 jq201_30 ?_
    refine jg_getI (p := 34) (i := 0) rfl jM201 jq201_31 rfl (jo_92 s2.1) jn_11_0 s2 (by decide) (by decide) jg_uH ?_
    refine jw_if (p := 37) rfl jM201 jq201_34 (jc_le (jb_rn rfl) jb_r0) (fun z => absurd z (by decide)) (fun _ => ?_)
    refine jw_iconst (p := 38) rfl jM201 jq201_37 ?_
    refine jw_goto jM201 jq201_38 ?_
    refine jiS2 (p := 47) rfl jM201 jq201_46 ?_
    refine jiL2 (p := 48) rfl jM201 jq201_47 ?_
    refine jw_iconst (p := 49) rfl jM201 jq201_48 ?_
    refine jw_ic (p := 52) rfl jM201 jq201_49 (jc_eq (jb_rn rfl) (jb_rn rfl)) (fun _ => ?_) (fun z => absurd (by decide) z)
    refine jw_iconst (p := 62) rfl jM201 jq201_61 ?_
    cases h1
    exact jw_iret jM201 jq201_62 (fun z => absurd z (by decide)) (k σ2 s2 (jb_rn rfl))
  · have h1 := jo_n c1 h
    refine jiL0 (p := 6) rfl jM147 jq147_5 ?_
    refine jiL2 (p := 7) rfl jM147 jq147_6 ?_
    refine jw_ic (p := 10) rfl jM147 jq147_7 (jc_gt hl1 (jb_rn rfl)) (fun c3 => ?_) (fun c3 => ?_)
    · have h3 := jo_p c3 h1
      refine jw_iconst (p := 15) rfl jM147 jq147_14 ?_
      refine jw_iret jM147 jq147_15 (fun _ => Or.inl rfl) ?_
      show jb_w (d + 5) 201 8 [some (.ref 92), some (jb_v l1), none] [(jb_v 0), (.ref 92)] σ Q
      refine jw_if (p := 11) rfl jM201 jq201_8 (jc_ne (jb_rn rfl) jb_r0) (fun z => absurd z (by decide)) (fun _ => ?_)
      refine jw_iconst (p := 12) rfl jM201 jq201_11 ?_
      refine jw_goto jM201 jq201_12 ?_
      refine jg_putI (p := 30) (i := 0) rfl jM201 jq201_27 rfl (jo_92 s.1) (Or.inl jz_11_0) s (by decide) (by decide) (jb_rn rfl) ?_
      intro σ4 s4
      refine jaL0 (p := 31) rfl jM201 jq201_30 ?_
      refine jg_getI (p := 34) (i := 0) rfl jM201 jq201_31 rfl (jo_92 s4.1) jn_11_0 s4 (by decide) (by decide) jg_uH ?_
      refine jw_if (p := 37) rfl jM201 jq201_34 (jc_le (jb_rn rfl) jb_r0) (fun z => absurd z (by decide)) (fun _ => ?_)
      refine jw_iconst (p := 38) rfl jM201 jq201_37 ?_
      refine jw_goto jM201 jq201_38 ?_
      refine jiS2 (p := 47) rfl jM201 jq201_46 ?_
      refine jiL2 (p := 48) rfl jM201 jq201_47 ?_
      refine jw_iconst (p := 49) rfl jM201 jq201_48 ?_
      refine jw_ic (p := 52) rfl jM201 jq201_49 (jc_eq (jb_rn rfl) (jb_rn rfl)) (fun _ => ?_) (fun z => absurd (by decide) z)
      refine jw_iconst (p := 62) rfl jM201 jq201_61 ?_
      cases h3
      exact jw_iret jM201 jq201_62 (fun z => absurd z (by decide)) (k σ4 s4 (jb_rn rfl))
    · have h3 := jo_n c3 h1
      refine jw_iconst (p := 11) rfl jM147 jq147_10 ?_
      refine jw_goto jM147 jq147_11 ?_
      refine jw_iret jM147 jq147_15 (fun _ => Or.inr rfl) ?_
      show jb_w (d + 5) 201 8 [some (.ref 92), some (jb_v l1), none] [(jb_v 1), (.ref 92)] σ Q
      refine jw_if (p := 11) rfl jM201 jq201_8 (jc_ne (jb_rn rfl) jb_r0) (fun _ => ?_) (fun z => absurd (by decide) z)
      refine jaL0 (p := 16) rfl jM201 jq201_15 ?_
      refine jg_getI (p := 19) (i := 7) rfl jM201 jq201_16 rfl (jo_92 s.1) jn_11_7 s (by decide) (by decide) rfl ?_
      refine jw_if (p := 22) rfl jM201 jq201_19 (jc_eq (s.r _ _) jb_r0) (fun c5 => ?_) (fun c5 => ?_)
      · have h5 := jo_p c5 h3
        refine jw_iconst (p := 27) rfl jM201 jq201_26 ?_
        refine jg_putI (p := 30) (i := 0) rfl jM201 jq201_27 rfl (jo_92 s.1) (Or.inl jz_11_0) s (by decide) (by decide) (jb_rn rfl) ?_
        intro σ6 s6
        refine jaL0 (p := 31) rfl jM201 jq201_30 ?_
        refine jg_getI (p := 34) (i := 0) rfl jM201 jq201_31 rfl (jo_92 s6.1) jn_11_0 s6 (by decide) (by decide) jg_uH ?_
        refine jw_if (p := 37) rfl jM201 jq201_34 (jc_le (jb_rn rfl) jb_r0) (fun _ => ?_) (fun z => absurd (by decide) z)
        refine jaL0 (p := 42) rfl jM201 jq201_41 ?_
        refine jiL1 (p := 43) rfl jM201 jq201_42 ?_
        refine jw_callV [(jb_v l1)] jM201 jq201_43 rfl rfl (jo_92 s6.1) rfl jM160 rfl rfl ?_
        obtain ⟨x7, e8, h8⟩ := jo_lb h5
        refine cs160 hl1 (fun σ7 s7 r7 => ?_) σ6 s6
        rw [e8] at r7 ⊢
        show jb_w (d + 5) 201 46 [some (.ref 92), some (jb_v l1), none] [(jb_v x7)] σ7 Q
        refine jiS2 (p := 47) rfl jM201 jq201_46 ?_
        refine jiL2 (p := 48) rfl jM201 jq201_47 ?_
        refine jw_iconst (p := 49) rfl jM201 jq201_48 ?_
        refine jw_ic (p := 52) rfl jM201 jq201_49 (jc_eq r7 (jb_rn rfl)) (fun c9 => ?_) (fun c9 => ?_)
        · have h9 := jo_p c9 h8
          refine jw_iconst (p := 62) rfl jM201 jq201_61 ?_
          cases h9
          exact jw_iret jM201 jq201_62 (fun z => absurd z (by decide)) (k σ7 s7 (jb_rn rfl))
        · have h9 := jo_n c9 h8
          refine jaL0 (p := 53) rfl jM201 jq201_52 ?_
          refine jw_getP (p := 56) (i := 11) (q := 97) rfl jM201 jq201_53 rfl (jo_92 s7.1) je_11_11 (jp_92_11 s7.1) ?_
          refine jiL2 (p := 57) rfl jM201 jq201_56 ?_
          obtain ⟨c10, h10⟩ := jo_i h9
          refine jg_iald (p := 58) rfl jM201 jq201_57 (ja_97 s7.1) c10.1 c10.2 s7 (by decide) (jg_uN (by decide)) ?_
          refine jw_if (p := 61) rfl jM201 jq201_58 (jc_ne (s.r _ _) jb_r0) (fun c11 => ?_) (fun c11 => ?_)
          · have h11 := jo_n c11 h10
            refine jaL0 (p := 64) rfl jM201 jq201_63 ?_
            refine jiL2 (p := 65) rfl jM201 jq201_64 ?_
            refine jw_callV [(jb_v x7)] jM201 jq201_65 rfl rfl (jo_92 s7.1) rfl jM167 rfl rfl ?_
            obtain ⟨x12, b13, h13⟩ := jo_b h11
            refine jf167 r7 b13 (fun σ12 s12 => ?_) σ7 s7
            show jb_w (d + 5) 201 68 [some (.ref 92), some (jb_v l1), some (jb_v x7)] [] σ12 Q
            refine jaL0 (p := 69) rfl jM201 jq201_68 ?_
            refine jg_getI (p := 72) (i := 7) rfl jM201 jq201_69 rfl (jo_92 s12.1) jn_11_7 s12 (by decide) (by decide) rfl ?_
            refine jw_if (p := 75) rfl jM201 jq201_72 (jc_eq (s12.r _ _) jb_r0) (fun c14 => ?_) (fun c14 => ?_)
            · have h14 := jo_p c14 h13
              refine jw_iconst (p := 81) rfl jM201 jq201_80 ?_
              cases h14
              exact jw_iret jM201 jq201_81 (fun z => absurd z (by decide)) (k σ12 s12 (jb_rn rfl))
            · have h14 := jo_n c14 h13
              refine jw_bipush (p := 77) rfl jM201 jq201_75 (by decide) ?_
              refine jw_goto jM201 jq201_77 ?_
              cases h14
              exact jw_iret jM201 jq201_81 (fun z => absurd z (by decide)) (k σ12 s12 (jb_rn rfl))
          · have h11 := jo_p (Decidable.byContradiction c11) h10
            refine jw_iconst (p := 62) rfl jM201 jq201_61 ?_
            cases h11
            exact jw_iret jM201 jq201_62 (fun z => absurd z (by decide)) (k σ7 s7 (jb_rn rfl))
      · have h5 := jo_n c5 h3
        refine jw_iconst (p := 23) rfl jM201 jq201_22 ?_
        refine jw_goto jM201 jq201_23 ?_
        refine jg_putI (p := 30) (i := 0) rfl jM201 jq201_27 rfl (jo_92 s.1) (Or.inl jz_11_0) s (by decide) (by decide) (jb_rn rfl) ?_
        intro σ15 s15
        refine jaL0 (p := 31) rfl jM201 jq201_30 ?_
        refine jg_getI (p := 34) (i := 0) rfl jM201 jq201_31 rfl (jo_92 s15.1) jn_11_0 s15 (by decide) (by decide) jg_uH ?_
        refine jw_if (p := 37) rfl jM201 jq201_34 (jc_le (jb_rn rfl) jb_r0) (fun z => absurd z (by decide)) (fun _ => ?_)
        refine jw_iconst (p := 38) rfl jM201 jq201_37 ?_
        refine jw_goto jM201 jq201_38 ?_
        refine jiS2 (p := 47) rfl jM201 jq201_46 ?_
        refine jiL2 (p := 48) rfl jM201 jq201_47 ?_
        refine jw_iconst (p := 49) rfl jM201 jq201_48 ?_
        refine jw_ic (p := 52) rfl jM201 jq201_49 (jc_eq (jb_rn rfl) (jb_rn rfl)) (fun _ => ?_) (fun z => absurd (by decide) z)
        refine jw_iconst (p := 62) rfl jM201 jq201_61 ?_
        cases h5
        exact jw_iret jM201 jq201_62 (fun z => absurd z (by decide)) (k σ15 s15 (jb_rn rfl))
-- 202 crashAt need 1
def fo202 (G : jg_G) (l1 : Int) : Option (jg_G × Int) := if l1 < 0 then (some (jg_u (jg_u G 92 0 1) 92 6 (G 92 6), 0)) else (if 999 < l1 then (some (jg_u (jg_u G 92 0 1) 92 6 (G 92 6), 0)) else (some (jg_u (jg_u G 92 0 0) 92 6 l1, 0)))
theorem jf202 {d : Nat} {σ0 : ib_H} {Q : ib_O → Prop} {G : jg_G} {l1 : Int} (hl1 : jb_r l1) {r : jg_G × Int} (h : fo202 G l1 = some r) (k : ∀ σ, jg_S σ0 r.1 σ → Q (.inl none, σ)) : jg_W σ0 G (d + 1) 202 0 [some (.ref 92), some (jb_v l1)] [] Q := by
  intro σ s
  unfold fo202 at h
  refine jaL0 (p := 1) rfl jM202 jq202_0 ?_
  refine jiL1 (p := 2) rfl jM202 jq202_1 ?_
  refine jw_iconst (p := 3) rfl jM202 jq202_2 ?_
  refine jw_sipush (p := 6) rfl jM202 jq202_3 (by decide) ?_
  refine jw_callS [(jb_v l1), (jb_v 0), (jb_v 999)] jM202 jq202_6 rfl rfl rfl jM147 rfl rfl ?_
  show jb_w d 147 0 [some (jb_v l1), some (jb_v 0), some (jb_v 999)] [] σ (jb_k (d + 1) 202 6 [some (.ref 92), some (jb_v l1)] [(.ref 92)] Q)
  refine jiL0 (p := 1) rfl jM147 jq147_0 ?_
  refine jiL1 (p := 2) rfl jM147 jq147_1 ?_
  refine jw_ic (p := 5) rfl jM147 jq147_2 (jc_lt hl1 (jb_rn rfl)) (fun c1 => ?_) (fun c1 => ?_)
  · have h1 := jo_p c1 h
    refine jw_iconst (p := 15) rfl jM147 jq147_14 ?_
    refine jw_iret jM147 jq147_15 (fun _ => Or.inl rfl) ?_
    show jb_w (d + 1) 202 9 [some (.ref 92), some (jb_v l1)] [(jb_v 0), (.ref 92)] σ Q
    refine jw_if (p := 12) rfl jM202 jq202_9 (jc_eq (jb_rn rfl) jb_r0) (fun _ => ?_) (fun z => absurd (by decide) z)
    refine jw_iconst (p := 17) rfl jM202 jq202_16 ?_
    refine jg_putI (p := 20) (i := 0) rfl jM202 jq202_17 rfl (jo_92 s.1) (Or.inl jz_11_0) s (by decide) (by decide) (jb_rn rfl) ?_
    intro σ2 s2
    refine jaL0 (p := 21) rfl jM202 jq202_20 ?_
    refine jaL0 (p := 22) rfl jM202 jq202_21 ?_
    refine jg_getI (p := 25) (i := 0) rfl jM202 jq202_22 rfl (jo_92 s2.1) jn_11_0 s2 (by decide) (by decide) jg_uH ?_
    refine jw_if (p := 28) rfl jM202 jq202_25 (jc_ne (jb_rn rfl) jb_r0) (fun _ => ?_) (fun z => absurd (by decide) z)
    refine jaL0 (p := 33) rfl jM202 jq202_32 ?_
    refine jg_getI (p := 36) (i := 6) rfl jM202 jq202_33 rfl (jo_92 s2.1) jn_11_6 s2 (by decide) (by decide) (jg_uI (by decide)) ?_
    refine jg_putI (p := 39) (i := 6) rfl jM202 jq202_36 rfl (jo_92 s2.1) (Or.inl jz_11_6) s2 (by decide) (by decide) (s.r _ _) ?_
    intro σ3 s3
    cases h1
    exact jw_vret jM202 jq202_39 (k σ3 s3)
  · have h1 := jo_n c1 h
    refine jiL0 (p := 6) rfl jM147 jq147_5 ?_
    refine jiL2 (p := 7) rfl jM147 jq147_6 ?_
    refine jw_ic (p := 10) rfl jM147 jq147_7 (jc_gt hl1 (jb_rn rfl)) (fun c4 => ?_) (fun c4 => ?_)
    · have h4 := jo_p c4 h1
      refine jw_iconst (p := 15) rfl jM147 jq147_14 ?_
      refine jw_iret jM147 jq147_15 (fun _ => Or.inl rfl) ?_
      show jb_w (d + 1) 202 9 [some (.ref 92), some (jb_v l1)] [(jb_v 0), (.ref 92)] σ Q
      refine jw_if (p := 12) rfl jM202 jq202_9 (jc_eq (jb_rn rfl) jb_r0) (fun _ => ?_) (fun z => absurd (by decide) z)
      refine jw_iconst (p := 17) rfl jM202 jq202_16 ?_
      refine jg_putI (p := 20) (i := 0) rfl jM202 jq202_17 rfl (jo_92 s.1) (Or.inl jz_11_0) s (by decide) (by decide) (jb_rn rfl) ?_
      intro σ5 s5
      refine jaL0 (p := 21) rfl jM202 jq202_20 ?_
      refine jaL0 (p := 22) rfl jM202 jq202_21 ?_
      refine jg_getI (p := 25) (i := 0) rfl jM202 jq202_22 rfl (jo_92 s5.1) jn_11_0 s5 (by decide) (by decide) jg_uH ?_
      refine jw_if (p := 28) rfl jM202 jq202_25 (jc_ne (jb_rn rfl) jb_r0) (fun _ => ?_) (fun z => absurd (by decide) z)
      refine jaL0 (p := 33) rfl jM202 jq202_32 ?_
      refine jg_getI (p := 36) (i := 6) rfl jM202 jq202_33 rfl (jo_92 s5.1) jn_11_6 s5 (by decide) (by decide) (jg_uI (by decide)) ?_
      refine jg_putI (p := 39) (i := 6) rfl jM202 jq202_36 rfl (jo_92 s5.1) (Or.inl jz_11_6) s5 (by decide) (by decide) (s.r _ _) ?_
      intro σ6 s6
      cases h4
      exact jw_vret jM202 jq202_39 (k σ6 s6)
    · have h4 := jo_n c4 h1
      refine jw_iconst (p := 11) rfl jM147 jq147_10 ?_
      refine jw_goto jM147 jq147_11 ?_
      refine jw_iret jM147 jq147_15 (fun _ => Or.inr rfl) ?_
      show jb_w (d + 1) 202 9 [some (.ref 92), some (jb_v l1)] [(jb_v 1), (.ref 92)] σ Q
      refine jw_if (p := 12) rfl jM202 jq202_9 (jc_eq (jb_rn rfl) jb_r0) (fun z => absurd z (by decide)) (fun _ => ?_)
      refine jw_iconst (p := 13) rfl jM202 jq202_12 ?_
      refine jw_goto jM202 jq202_13 ?_
      refine jg_putI (p := 20) (i := 0) rfl jM202 jq202_17 rfl (jo_92 s.1) (Or.inl jz_11_0) s (by decide) (by decide) (jb_rn rfl) ?_
      intro σ7 s7
      refine jaL0 (p := 21) rfl jM202 jq202_20 ?_
      refine jaL0 (p := 22) rfl jM202 jq202_21 ?_
      refine jg_getI (p := 25) (i := 0) rfl jM202 jq202_22 rfl (jo_92 s7.1) jn_11_0 s7 (by decide) (by decide) jg_uH ?_
      refine jw_if (p := 28) rfl jM202 jq202_25 (jc_ne (jb_rn rfl) jb_r0) (fun z => absurd z (by decide)) (fun _ => ?_)
      refine jiL1 (p := 29) rfl jM202 jq202_28 ?_
      refine jw_goto jM202 jq202_29 ?_
      refine jg_putI (p := 39) (i := 6) rfl jM202 jq202_36 rfl (jo_92 s7.1) (Or.inl jz_11_6) s7 (by decide) (by decide) hl1 ?_
      intro σ8 s8
      cases h4
      exact jw_vret jM202 jq202_39 (k σ8 s8)
-- 203 crash need 2
def fo203 (G : jg_G) : Option (jg_G × Int) := if G 92 7 = 0 then (some (fr_fa (jg_u G 92 0 0), 0)) else (some (jg_u G 92 0 0, 0))
theorem jf203 {d : Nat} {σ0 : ib_H} {Q : ib_O → Prop} {G : jg_G} {r : jg_G × Int} (h : fo203 G  = some r) (k : ∀ σ, jg_S σ0 r.1 σ → Q (.inl none, σ)) : jg_W σ0 G (d + 2) 203 0 [some (.ref 92)] [] Q := by
  intro σ s
  unfold fo203 at h
  refine jaL0 (p := 1) rfl jM203 jq203_0 ?_
  refine jw_iconst (p := 2) rfl jM203 jq203_1 ?_
  refine jg_putI (p := 5) (i := 0) rfl jM203 jq203_2 rfl (jo_92 s.1) (Or.inl jz_11_0) s (by decide) (by decide) (jb_rn rfl) ?_
  intro σ1 s1
  refine jaL0 (p := 6) rfl jM203 jq203_5 ?_
  refine jg_getI (p := 9) (i := 7) rfl jM203 jq203_6 rfl (jo_92 s1.1) jn_11_7 s1 (by decide) (by decide) (jg_uI (by decide)) ?_
  refine jw_if (p := 12) rfl jM203 jq203_9 (jc_ne (s.r _ _) jb_r0) (fun c2 => ?_) (fun c2 => ?_)
  · have h2 := jo_n c2 h
    cases h2
    exact jw_vret jM203 jq203_16 (k σ1 s1)
  · have h2 := jo_p (Decidable.byContradiction c2) h
    refine jaL0 (p := 13) rfl jM203 jq203_12 ?_
    refine jw_callV [] jM203 jq203_13 rfl rfl (jo_92 s1.1) rfl jM163 rfl rfl ?_
    refine cs163  (fun σ3 s3 => ?_) σ1 s1
    show jb_w (d + 2) 203 16 [some (.ref 92)] [] σ3 Q
    cases h2
    exact jw_vret jM203 jq203_16 (k σ3 s3)
-- 204 mends need 4
def fo204_56 : Nat → jg_G → Int → Int → Option (jg_G × Int)
  | 0, _, _, _ => none
  | m + 1, G, l1, l2 => if 2 ≤ l2 then (some (G, 0)) else (if -2147483648 ≤ (52 + l2) ∧ (52 + l2) < 2147483648 then if -2147483648 ≤ ((4 + (2 * l1)) + l2) ∧ ((4 + (2 * l1)) + l2) < 2147483648 then (fo166 G (52 + l2) ((4 + (2 * l1)) + l2) (G 94 52)).bind fun x4 => if (x4.1) 92 7 = 0 then (if -2147483648 ≤ (l2 + 1) ∧ (l2 + 1) < 2147483648 then fo204_56 m (jg_u (x4.1) 113 3 (jb_m (((x4.1) 113 3) + 1))) l1 (l2 + 1) else none) else (if -2147483648 ≤ (l2 + 1) ∧ (l2 + 1) < 2147483648 then fo204_56 m (jg_u (x4.1) 113 3 (jb_m (((x4.1) 113 3) + 0))) l1 (l2 + 1) else none) else none else none)
theorem jf204_56 {d : Nat} {σ0 : ib_H} {Q : ib_O → Prop} : ∀ (m : Nat) {G : jg_G} {l1 : Int} {l2 : Int} (hl1 : jb_r l1) (hl2 : jb_r l2) {r : jg_G × Int} (h : fo204_56 m G l1 l2 = some r) (k : ∀ σ, jg_S σ0 r.1 σ → Q (.inl none, σ)), jg_W σ0 G (d + 4) 204 56 [some (.ref 92), some (jb_v l1), some (jb_v l2)] [] Q := by
  intro m
  induction m with
  | zero =>
    intro G l1 l2 hl1 hl2 r h k
    cases h
  | succ m ih =>
    intro G l1 l2 hl1 hl2 r h k σ s
    unfold fo204_56 at h
    refine jiL2 (p := 57) rfl jM204 jq204_56 ?_
    refine jw_iconst (p := 58) rfl jM204 jq204_57 ?_
    refine jw_ic (p := 61) rfl jM204 jq204_58 (jc_ge hl2 (jb_rn rfl)) (fun c1 => ?_) (fun c1 => ?_)
    · have h1 := jo_p c1 h
      cases h1
      exact jw_vret jM204 jq204_110 (k σ s)
    · have h1 := jo_n c1 h
      refine jaL0 (p := 62) rfl jM204 jq204_61 ?_
      refine jw_bipush (p := 64) rfl jM204 jq204_62 (by decide) ?_
      refine jiL2 (p := 65) rfl jM204 jq204_64 ?_
      refine jw_iadd (p := 66) rfl jM204 jq204_65 ?_
      refine jw_iconst (p := 67) rfl jM204 jq204_66 ?_
      refine jw_iconst (p := 68) rfl jM204 jq204_67 ?_
      refine jiL1 (p := 69) rfl jM204 jq204_68 ?_
      refine jw_imul (p := 70) rfl jM204 jq204_69 ?_
      refine jw_iadd (p := 71) rfl jM204 jq204_70 ?_
      refine jiL2 (p := 72) rfl jM204 jq204_71 ?_
      refine jw_iadd (p := 73) rfl jM204 jq204_72 ?_
      refine jaL0 (p := 74) rfl jM204 jq204_73 ?_
      refine jw_getP (p := 77) (i := 2) (q := 94) rfl jM204 jq204_74 rfl (jo_92 s.1) je_11_2 (jp_92_2 s.1) ?_
      refine jw_bipush (p := 79) rfl jM204 jq204_77 (by decide) ?_
      refine jg_iald (p := 80) rfl jM204 jq204_79 (ja_94 s.1) (by decide) (by decide) s (by decide) rfl ?_
      refine jw_callV [(jb_v (52 + l2)), (jb_v ((4 + (2 * l1)) + l2)), (jb_v (G 94 52))] jM204 jq204_80 rfl rfl (jo_92 s.1) rfl jM166 rfl rfl ?_
      obtain ⟨c2, h2⟩ := jo_i h1
      obtain ⟨c3, h3⟩ := jo_i h2
      obtain ⟨x4, b5, h5⟩ := jo_b h3
      refine jf166 c2 c3 (s.r _ _) b5 (fun σ4 s4 => ?_) σ s
      show jb_w (d + 4) 204 83 [some (.ref 92), some (jb_v l1), some (jb_v l2)] [] σ4 Q
      refine jaL0 (p := 84) rfl jM204 jq204_83 ?_
      refine jw_getP (p := 87) (i := 30) (q := 113) rfl jM204 jq204_84 rfl (jo_92 s4.1) je_11_30 (jp_92_30 s4.1) ?_
      refine jw_iconst (p := 88) rfl jM204 jq204_87 ?_
      refine jw_dup2 (p := 89) rfl jM204 jq204_88 ?_
      refine jg_iald (p := 90) rfl jM204 jq204_89 (ja_113 s4.1) (by decide) (by decide) s4 (by decide) rfl ?_
      refine jaL0 (p := 91) rfl jM204 jq204_90 ?_
      refine jg_getI (p := 94) (i := 7) rfl jM204 jq204_91 rfl (jo_92 s4.1) jn_11_7 s4 (by decide) (by decide) rfl ?_
      refine jw_if (p := 97) rfl jM204 jq204_94 (jc_eq (s4.r _ _) jb_r0) (fun c6 => ?_) (fun c6 => ?_)
      · have h6 := jo_p c6 h5
        refine jw_iconst (p := 102) rfl jM204 jq204_101 ?_
        refine jw_iadd (p := 103) rfl jM204 jq204_102 ?_
        refine jg_iasM (p := 104) rfl jM204 jq204_103 (ja_113 s4.1) (by decide) (by decide) s4 (by decide) ?_
        intro σ7 s7
        refine jiI2 (p := 107) rfl jM204 jq204_104 ?_
        refine jw_goto jM204 jq204_107 ?_
        obtain ⟨c8, h8⟩ := jo_i h6
        exact ih hl1 c8 h8 k σ7 s7
      · have h6 := jo_n c6 h5
        refine jw_iconst (p := 98) rfl jM204 jq204_97 ?_
        refine jw_goto jM204 jq204_98 ?_
        refine jw_iadd (p := 103) rfl jM204 jq204_102 ?_
        refine jg_iasM (p := 104) rfl jM204 jq204_103 (ja_113 s4.1) (by decide) (by decide) s4 (by decide) ?_
        intro σ9 s9
        refine jiI2 (p := 107) rfl jM204 jq204_104 ?_
        refine jw_goto jM204 jq204_107 ?_
        obtain ⟨c10, h10⟩ := jo_i h6
        exact ih hl1 c10 h10 k σ9 s9
def fo204 (G : jg_G) : Option (jg_G × Int) := if G 92 3 ≤ 0 then (some (G, 0)) else (if G 94 52 = G 94 53 then (if 0 ≤ (4 + (2 * (G 92 4))) ∧ (4 + (2 * (G 92 4))) < 54 then if 0 ≤ ((4 + (2 * (G 92 4))) + 1) ∧ ((4 + (2 * (G 92 4))) + 1) < 54 then if G 94 (4 + (2 * (G 92 4))) = G 94 ((4 + (2 * (G 92 4))) + 1) then (some (G, 0)) else (fo204_56 jo_N G (G 92 4) 0) else none else none) else (some (G, 0)))
theorem jf204 {d : Nat} {σ0 : ib_H} {Q : ib_O → Prop} {G : jg_G} {r : jg_G × Int} (h : fo204 G  = some r) (k : ∀ σ, jg_S σ0 r.1 σ → Q (.inl none, σ)) : jg_W σ0 G (d + 4) 204 0 [some (.ref 92), none, none] [] Q := by
  intro σ s
  unfold fo204 at h
  refine jaL0 (p := 1) rfl jM204 jq204_0 ?_
  refine jg_getI (p := 4) (i := 4) rfl jM204 jq204_1 rfl (jo_92 s.1) jn_11_4 s (by decide) (by decide) rfl ?_
  refine jiS1 (p := 5) rfl jM204 jq204_4 ?_
  refine jaL0 (p := 6) rfl jM204 jq204_5 ?_
  refine jg_getI (p := 9) (i := 3) rfl jM204 jq204_6 rfl (jo_92 s.1) jn_11_3 s (by decide) (by decide) rfl ?_
  refine jw_if (p := 12) rfl jM204 jq204_9 (jc_le (s.r _ _) jb_r0) (fun c1 => ?_) (fun c1 => ?_)
  · have h1 := jo_p c1 h
    cases h1
    exact jw_vret jM204 jq204_110 (k σ s)
  · have h1 := jo_n c1 h
    refine jaL0 (p := 13) rfl jM204 jq204_12 ?_
    refine jw_getP (p := 16) (i := 2) (q := 94) rfl jM204 jq204_13 rfl (jo_92 s.1) je_11_2 (jp_92_2 s.1) ?_
    refine jw_bipush (p := 18) rfl jM204 jq204_16 (by decide) ?_
    refine jg_iald (p := 19) rfl jM204 jq204_18 (ja_94 s.1) (by decide) (by decide) s (by decide) rfl ?_
    refine jaL0 (p := 20) rfl jM204 jq204_19 ?_
    refine jw_getP (p := 23) (i := 2) (q := 94) rfl jM204 jq204_20 rfl (jo_92 s.1) je_11_2 (jp_92_2 s.1) ?_
    refine jw_bipush (p := 25) rfl jM204 jq204_23 (by decide) ?_
    refine jg_iald (p := 26) rfl jM204 jq204_25 (ja_94 s.1) (by decide) (by decide) s (by decide) rfl ?_
    refine jw_ic (p := 29) rfl jM204 jq204_26 (jc_ne (s.r _ _) (s.r _ _)) (fun c2 => ?_) (fun c2 => ?_)
    · have h2 := jo_n c2 h1
      cases h2
      exact jw_vret jM204 jq204_110 (k σ s)
    · have h2 := jo_p (Decidable.byContradiction c2) h1
      refine jaL0 (p := 30) rfl jM204 jq204_29 ?_
      refine jw_getP (p := 33) (i := 2) (q := 94) rfl jM204 jq204_30 rfl (jo_92 s.1) je_11_2 (jp_92_2 s.1) ?_
      refine jw_iconst (p := 34) rfl jM204 jq204_33 ?_
      refine jw_iconst (p := 35) rfl jM204 jq204_34 ?_
      refine jiL1 (p := 36) rfl jM204 jq204_35 ?_
      refine jw_imul (p := 37) rfl jM204 jq204_36 ?_
      refine jw_iadd (p := 38) rfl jM204 jq204_37 ?_
      obtain ⟨c3, h3⟩ := jo_i h2
      refine jg_iald (p := 39) rfl jM204 jq204_38 (ja_94 s.1) c3.1 c3.2 s (by decide) rfl ?_
      refine jaL0 (p := 40) rfl jM204 jq204_39 ?_
      refine jw_getP (p := 43) (i := 2) (q := 94) rfl jM204 jq204_40 rfl (jo_92 s.1) je_11_2 (jp_92_2 s.1) ?_
      refine jw_iconst (p := 44) rfl jM204 jq204_43 ?_
      refine jw_iconst (p := 45) rfl jM204 jq204_44 ?_
      refine jiL1 (p := 46) rfl jM204 jq204_45 ?_
      refine jw_imul (p := 47) rfl jM204 jq204_46 ?_
      refine jw_iadd (p := 48) rfl jM204 jq204_47 ?_
      refine jw_iconst (p := 49) rfl jM204 jq204_48 ?_
      refine jw_iadd (p := 50) rfl jM204 jq204_49 ?_
      obtain ⟨c4, h4⟩ := jo_i h3
      refine jg_iald (p := 51) rfl jM204 jq204_50 (ja_94 s.1) c4.1 c4.2 s (by decide) rfl ?_
      refine jw_ic (p := 54) rfl jM204 jq204_51 (jc_eq (s.r _ _) (s.r _ _)) (fun c5 => ?_) (fun c5 => ?_)
      · have h5 := jo_p c5 h4
        cases h5
        exact jw_vret jM204 jq204_110 (k σ s)
      · have h5 := jo_n c5 h4
        refine jw_iconst (p := 55) rfl jM204 jq204_54 ?_
        refine jiS2 (p := 56) rfl jM204 jq204_55 ?_
        exact jf204_56 jo_N (s.r _ _) (jb_rn rfl) h5 k σ s
-- 205 reads need 1
def fo205_s : Nat → Nat → jg_G → Int → Int → Int → Int → Option (jg_G × Int)
  | 0, _, _, _, _, _, _ => none
  | m + 1, t, G, l1, l2, l3, l4 => if t = 146 then (if G 92 12 < l3 then (some (G, 0)) else (if 0 ≤ l3 ∧ l3 < 1501 then if G 99 l3 = (-1) then (fo205_s m 213 (jg_u G 113 0 (jb_m ((G 113 0) + 1))) l1 l2 l3 0) else (if G 98 l3 = 2 then (if 0 ≤ (G 99 l3) ∧ (G 99 l3) < 4 then fo205_s m 213 (jg_u (jg_u G 113 0 (jb_m ((G 113 0) + 1))) 108 (G 99 l3) 0) l1 l2 l3 0 else none) else (if G 98 l3 = 3 then (if 0 ≤ (G 99 l3) ∧ (G 99 l3) < 4 then fo205_s m 213 (jg_u (jg_u G 113 0 (jb_m ((G 113 0) + 1))) 108 (G 99 l3) 0) l1 l2 l3 0 else none) else (if 0 ≤ (G 99 l3) ∧ (G 99 l3) < 4 then fo205_s m 213 (jg_u (jg_u G 113 0 (jb_m ((G 113 0) + 1))) 108 (G 99 l3) l3) l1 l2 l3 0 else none))) else none)) else if t = 213 then (if 0 ≤ l3 ∧ l3 < 1501 then if G 105 l3 ≤ l4 then (if -2147483648 ≤ (l3 + 1) ∧ (l3 + 1) < 2147483648 then fo205_s m 146 G l1 l2 (l3 + 1) 0 else none) else (if 0 ≤ ((3 * l3) + l4) ∧ ((3 * l3) + l4) < 4503 then if 0 ≤ (G 106 ((3 * l3) + l4)) ∧ (G 106 ((3 * l3) + l4)) < 24 then if G 114 (G 106 ((3 * l3) + l4)) = 0 then (if -2147483648 ≤ (l4 + 1) ∧ (l4 + 1) < 2147483648 then fo205_s m 213 (jg_u G 114 (G 106 ((3 * l3) + l4)) l3) l1 l2 l3 (l4 + 1) else none) else (if -2147483648 ≤ (l4 + 1) ∧ (l4 + 1) < 2147483648 then fo205_s m 213 (jg_u G 114 (G 106 ((3 * l3) + l4)) (G 114 (G 106 ((3 * l3) + l4)))) l1 l2 l3 (l4 + 1) else none) else none else none) else none) else none
theorem jf205_s {d : Nat} {σ0 : ib_H} {Q : ib_O → Prop} : ∀ (m : Nat), (∀ {G : jg_G} {l1 : Int} {l2 : Int} {l3 : Int} {o4 : Option Value} {o5 : Option Value} (hl1 : jb_r l1) (hl2 : jb_r l2) (hl3 : jb_r l3) {r : jg_G × Int} (h : fo205_s m 146 G l1 l2 l3 0 = some r) (k : ∀ σ, jg_S σ0 r.1 σ → Q (.inl none, σ)), jg_W σ0 G (d + 1) 205 146 [some (.ref 92), some (jb_v l1), some (jb_v l2), some (jb_v l3), o4, o5] [] Q) ∧ (∀ {G : jg_G} {l1 : Int} {l2 : Int} {l3 : Int} {l4 : Int} {o5 : Option Value} (hl1 : jb_r l1) (hl2 : jb_r l2) (hl3 : jb_r l3) (hl4 : jb_r l4) {r : jg_G × Int} (h : fo205_s m 213 G l1 l2 l3 l4 = some r) (k : ∀ σ, jg_S σ0 r.1 σ → Q (.inl none, σ)), jg_W σ0 G (d + 1) 205 213 [some (.ref 92), some (jb_v l1), some (jb_v l2), some (jb_v l3), some (jb_v l4), o5] [] Q) := by
  intro m
  induction m with
  | zero =>
    refine ⟨?_, ?_⟩
    · intro G l1 l2 l3 o4 o5 hl1 hl2 hl3 r h k
      cases h
    · intro G l1 l2 l3 l4 o5 hl1 hl2 hl3 hl4 r h k
      cases h
  | succ m ih =>
    refine ⟨?_, ?_⟩
    · intro G l1 l2 l3 o4 o5 hl1 hl2 hl3 r h k σ s
      unfold fo205_s at h
      have h := jo_p rfl h
      refine jiL3 (p := 147) rfl jM205 jq205_146 ?_
      refine jaL0 (p := 148) rfl jM205 jq205_147 ?_
      refine jg_getI (p := 151) (i := 12) rfl jM205 jq205_148 rfl (jo_92 s.1) jn_11_12 s (by decide) (by decide) rfl ?_
      refine jw_ic (p := 154) rfl jM205 jq205_151 (jc_gt hl3 (s.r _ _)) (fun c1 => ?_) (fun c1 => ?_)
      · have h1 := jo_p c1 h
        cases h1
        exact jw_vret jM205 jq205_277 (k σ s)
      · have h1 := jo_n c1 h
        refine jaL0 (p := 155) rfl jM205 jq205_154 ?_
        refine jw_getP (p := 158) (i := 30) (q := 113) rfl jM205 jq205_155 rfl (jo_92 s.1) je_11_30 (jp_92_30 s.1) ?_
        refine jw_iconst (p := 159) rfl jM205 jq205_158 ?_
        refine jw_dup2 (p := 160) rfl jM205 jq205_159 ?_
        refine jg_iald (p := 161) rfl jM205 jq205_160 (ja_113 s.1) (by decide) (by decide) s (by decide) rfl ?_
        refine jw_iconst (p := 162) rfl jM205 jq205_161 ?_
        refine jw_iadd (p := 163) rfl jM205 jq205_162 ?_
        refine jg_iasM (p := 164) rfl jM205 jq205_163 (ja_113 s.1) (by decide) (by decide) s (by decide) ?_
        intro σ2 s2
        refine jaL0 (p := 165) rfl jM205 jq205_164 ?_
        refine jw_getP (p := 168) (i := 15) (q := 99) rfl jM205 jq205_165 rfl (jo_92 s2.1) je_11_15 (jp_92_15 s2.1) ?_
        refine jiL3 (p := 169) rfl jM205 jq205_168 ?_
        obtain ⟨c3, h3⟩ := jo_i h1
        refine jg_iald (p := 170) rfl jM205 jq205_169 (ja_99 s2.1) c3.1 c3.2 s2 (by decide) (jg_uN (by decide)) ?_
        refine jw_iconst (p := 171) rfl jM205 jq205_170 ?_
        refine jw_ic (p := 174) rfl jM205 jq205_171 (jc_eq (s.r _ _) (jb_rn rfl)) (fun c4 => ?_) (fun c4 => ?_)
        · have h4 := jo_p c4 h3
          refine jw_iconst (p := 211) rfl jM205 jq205_210 ?_
          refine jiS4 (p := 213) rfl jM205 jq205_211 ?_
          exact ih.2 hl1 hl2 hl3 (jb_rn rfl) h4 k σ2 s2
        · have h4 := jo_n c4 h3
          refine jaL0 (p := 175) rfl jM205 jq205_174 ?_
          refine jw_getP (p := 178) (i := 24) (q := 108) rfl jM205 jq205_175 rfl (jo_92 s2.1) je_11_24 (jp_92_24 s2.1) ?_
          refine jaL0 (p := 179) rfl jM205 jq205_178 ?_
          refine jw_getP (p := 182) (i := 15) (q := 99) rfl jM205 jq205_179 rfl (jo_92 s2.1) je_11_15 (jp_92_15 s2.1) ?_
          refine jiL3 (p := 183) rfl jM205 jq205_182 ?_
          refine jg_iald (p := 184) rfl jM205 jq205_183 (ja_99 s2.1) c3.1 c3.2 s2 (by decide) (jg_uN (by decide)) ?_
          refine jaL0 (p := 185) rfl jM205 jq205_184 ?_
          refine jw_getP (p := 188) (i := 14) (q := 98) rfl jM205 jq205_185 rfl (jo_92 s2.1) je_11_14 (jp_92_14 s2.1) ?_
          refine jiL3 (p := 189) rfl jM205 jq205_188 ?_
          refine jg_iald (p := 190) rfl jM205 jq205_189 (ja_98 s2.1) c3.1 c3.2 s2 (by decide) (jg_uN (by decide)) ?_
          refine jw_iconst (p := 191) rfl jM205 jq205_190 ?_
          refine jw_ic (p := 194) rfl jM205 jq205_191 (jc_eq (s.r _ _) (jb_rn rfl)) (fun c5 => ?_) (fun c5 => ?_)
          · have h5 := jo_p c5 h4
            refine jw_iconst (p := 205) rfl jM205 jq205_204 ?_
            refine jw_goto jM205 jq205_205 ?_
            obtain ⟨c6, h6⟩ := jo_i h5
            refine jg_iast (p := 210) rfl jM205 jq205_209 (ja_108 s2.1) c6.1 c6.2 s2 (by decide) (jb_rn rfl) ?_
            intro σ7 s7
            refine jw_iconst (p := 211) rfl jM205 jq205_210 ?_
            refine jiS4 (p := 213) rfl jM205 jq205_211 ?_
            exact ih.2 hl1 hl2 hl3 (jb_rn rfl) h6 k σ7 s7
          · have h5 := jo_n c5 h4
            refine jaL0 (p := 195) rfl jM205 jq205_194 ?_
            refine jw_getP (p := 198) (i := 14) (q := 98) rfl jM205 jq205_195 rfl (jo_92 s2.1) je_11_14 (jp_92_14 s2.1) ?_
            refine jiL3 (p := 199) rfl jM205 jq205_198 ?_
            refine jg_iald (p := 200) rfl jM205 jq205_199 (ja_98 s2.1) c3.1 c3.2 s2 (by decide) (jg_uN (by decide)) ?_
            refine jw_iconst (p := 201) rfl jM205 jq205_200 ?_
            refine jw_ic (p := 204) rfl jM205 jq205_201 (jc_ne (s.r _ _) (jb_rn rfl)) (fun c8 => ?_) (fun c8 => ?_)
            · have h8 := jo_n c8 h5
              refine jiL3 (p := 209) rfl jM205 jq205_208 ?_
              obtain ⟨c9, h9⟩ := jo_i h8
              refine jg_iast (p := 210) rfl jM205 jq205_209 (ja_108 s2.1) c9.1 c9.2 s2 (by decide) hl3 ?_
              intro σ10 s10
              refine jw_iconst (p := 211) rfl jM205 jq205_210 ?_
              refine jiS4 (p := 213) rfl jM205 jq205_211 ?_
              exact ih.2 hl1 hl2 hl3 (jb_rn rfl) h9 k σ10 s10
            · have h8 := jo_p (Decidable.byContradiction c8) h5
              refine jw_iconst (p := 205) rfl jM205 jq205_204 ?_
              refine jw_goto jM205 jq205_205 ?_
              obtain ⟨c11, h11⟩ := jo_i h8
              refine jg_iast (p := 210) rfl jM205 jq205_209 (ja_108 s2.1) c11.1 c11.2 s2 (by decide) (jb_rn rfl) ?_
              intro σ12 s12
              refine jw_iconst (p := 211) rfl jM205 jq205_210 ?_
              refine jiS4 (p := 213) rfl jM205 jq205_211 ?_
              exact ih.2 hl1 hl2 hl3 (jb_rn rfl) h11 k σ12 s12
    · intro G l1 l2 l3 l4 o5 hl1 hl2 hl3 hl4 r h k σ s
      unfold fo205_s at h
      have h := jo_p rfl (jo_n (by decide) h)
      refine jiL4 (p := 215) rfl jM205 jq205_213 ?_
      refine jaL0 (p := 216) rfl jM205 jq205_215 ?_
      refine jw_getP (p := 219) (i := 21) (q := 105) rfl jM205 jq205_216 rfl (jo_92 s.1) je_11_21 (jp_92_21 s.1) ?_
      refine jiL3 (p := 220) rfl jM205 jq205_219 ?_
      obtain ⟨c13, h13⟩ := jo_i h
      refine jg_iald (p := 221) rfl jM205 jq205_220 (ja_105 s.1) c13.1 c13.2 s (by decide) rfl ?_
      refine jw_ic (p := 224) rfl jM205 jq205_221 (jc_ge hl4 (s.r _ _)) (fun c14 => ?_) (fun c14 => ?_)
      · have h14 := jo_p c14 h13
        refine jiI3 (p := 274) rfl jM205 jq205_271 ?_
        refine jw_goto jM205 jq205_274 ?_
        obtain ⟨c15, h15⟩ := jo_i h14
        exact ih.1 hl1 hl2 c15 h15 k σ s
      · have h14 := jo_n c14 h13
        refine jaL0 (p := 225) rfl jM205 jq205_224 ?_
        refine jw_getP (p := 228) (i := 22) (q := 106) rfl jM205 jq205_225 rfl (jo_92 s.1) je_11_22 (jp_92_22 s.1) ?_
        refine jw_iconst (p := 229) rfl jM205 jq205_228 ?_
        refine jiL3 (p := 230) rfl jM205 jq205_229 ?_
        refine jw_imul (p := 231) rfl jM205 jq205_230 ?_
        refine jiL4 (p := 233) rfl jM205 jq205_231 ?_
        refine jw_iadd (p := 234) rfl jM205 jq205_233 ?_
        obtain ⟨c16, h16⟩ := jo_i h14
        refine jg_iald (p := 235) rfl jM205 jq205_234 (ja_106 s.1) c16.1 c16.2 s (by decide) rfl ?_
        refine jiS5 (p := 237) rfl jM205 jq205_235 ?_
        refine jaL0 (p := 238) rfl jM205 jq205_237 ?_
        refine jw_getP (p := 241) (i := 31) (q := 114) rfl jM205 jq205_238 rfl (jo_92 s.1) je_11_31 (jp_92_31 s.1) ?_
        refine jiL5 (p := 243) rfl jM205 jq205_241 ?_
        refine jaL0 (p := 244) rfl jM205 jq205_243 ?_
        refine jw_getP (p := 247) (i := 31) (q := 114) rfl jM205 jq205_244 rfl (jo_92 s.1) je_11_31 (jp_92_31 s.1) ?_
        refine jiL5 (p := 249) rfl jM205 jq205_247 ?_
        obtain ⟨c17, h17⟩ := jo_i h16
        refine jg_iald (p := 250) rfl jM205 jq205_249 (ja_114 s.1) c17.1 c17.2 s (by decide) rfl ?_
        refine jw_if (p := 253) rfl jM205 jq205_250 (jc_ne (s.r _ _) jb_r0) (fun c18 => ?_) (fun c18 => ?_)
        · have h18 := jo_n c18 h17
          refine jaL0 (p := 258) rfl jM205 jq205_257 ?_
          refine jw_getP (p := 261) (i := 31) (q := 114) rfl jM205 jq205_258 rfl (jo_92 s.1) je_11_31 (jp_92_31 s.1) ?_
          refine jiL5 (p := 263) rfl jM205 jq205_261 ?_
          refine jg_iald (p := 264) rfl jM205 jq205_263 (ja_114 s.1) c17.1 c17.2 s (by decide) rfl ?_
          refine jg_iast (p := 265) rfl jM205 jq205_264 (ja_114 s.1) c17.1 c17.2 s (by decide) (s.r _ _) ?_
          intro σ19 s19
          refine jiI4 (p := 268) rfl jM205 jq205_265 ?_
          refine jw_goto jM205 jq205_268 ?_
          obtain ⟨c20, h20⟩ := jo_i h18
          exact ih.2 hl1 hl2 hl3 c20 h20 k σ19 s19
        · have h18 := jo_p (Decidable.byContradiction c18) h17
          refine jiL3 (p := 254) rfl jM205 jq205_253 ?_
          refine jw_goto jM205 jq205_254 ?_
          refine jg_iast (p := 265) rfl jM205 jq205_264 (ja_114 s.1) c17.1 c17.2 s (by decide) hl3 ?_
          intro σ21 s21
          refine jiI4 (p := 268) rfl jM205 jq205_265 ?_
          refine jw_goto jM205 jq205_268 ?_
          obtain ⟨c22, h22⟩ := jo_i h18
          exact ih.2 hl1 hl2 hl3 c22 h22 k σ21 s21

def fo205_88 : Nat → jg_G → Int → Int → Int → Option (jg_G × Int)
  | 0, _, _, _, _ => none
  | m + 1, G, l1, l2, l3 => if 24 ≤ l3 then (if l1 = 0 then (if -2147483648 ≤ (l1 + 1) ∧ (l1 + 1) < 2147483648 then fo205_s jo_N 146 (jg_u G 113 0 (jb_m ((G 113 0) + 0))) l1 l2 (l1 + 1) 0 else none) else (if -2147483648 ≤ (l1 + 1) ∧ (l1 + 1) < 2147483648 then fo205_s jo_N 146 (jg_u G 113 0 (jb_m ((G 113 0) + 1))) l1 l2 (l1 + 1) 0 else none)) else (if l1 = 0 then (if 0 ≤ l3 ∧ l3 < 24 then if -2147483648 ≤ (l3 + 1) ∧ (l3 + 1) < 2147483648 then fo205_88 m (jg_u G 114 l3 0) l1 l2 (l3 + 1) else none else none) else (if 0 ≤ ((l2 + 4) + l3) ∧ ((l2 + 4) + l3) < 305118 then if 0 ≤ l3 ∧ l3 < 24 then if -2147483648 ≤ (l3 + 1) ∧ (l3 + 1) < 2147483648 then fo205_88 m (jg_u G 114 l3 (G 93 ((l2 + 4) + l3))) l1 l2 (l3 + 1) else none else none else none))
theorem jf205_88 {d : Nat} {σ0 : ib_H} {Q : ib_O → Prop} : ∀ (m : Nat) {G : jg_G} {l1 : Int} {l2 : Int} {l3 : Int} (hl1 : jb_r l1) (hl2 : jb_r l2) (hl3 : jb_r l3) {r : jg_G × Int} (h : fo205_88 m G l1 l2 l3 = some r) (k : ∀ σ, jg_S σ0 r.1 σ → Q (.inl none, σ)), jg_W σ0 G (d + 1) 205 88 [some (.ref 92), some (jb_v l1), some (jb_v l2), some (jb_v l3), none, none] [] Q := by
  intro m
  induction m with
  | zero =>
    intro G l1 l2 l3 hl1 hl2 hl3 r h k
    cases h
  | succ m ih =>
    intro G l1 l2 l3 hl1 hl2 hl3 r h k σ s
    unfold fo205_88 at h
    refine jiL3 (p := 89) rfl jM205 jq205_88 ?_
    refine jw_bipush (p := 91) rfl jM205 jq205_89 (by decide) ?_
    refine jw_ic (p := 94) rfl jM205 jq205_91 (jc_ge hl3 (jb_rn rfl)) (fun c1 => ?_) (fun c1 => ?_)
    · have h1 := jo_p c1 h
      refine jaL0 (p := 125) rfl jM205 jq205_124 ?_
      refine jw_getP (p := 128) (i := 30) (q := 113) rfl jM205 jq205_125 rfl (jo_92 s.1) je_11_30 (jp_92_30 s.1) ?_
      refine jw_iconst (p := 129) rfl jM205 jq205_128 ?_
      refine jw_dup2 (p := 130) rfl jM205 jq205_129 ?_
      refine jg_iald (p := 131) rfl jM205 jq205_130 (ja_113 s.1) (by decide) (by decide) s (by decide) rfl ?_
      refine jiL1 (p := 132) rfl jM205 jq205_131 ?_
      refine jw_if (p := 135) rfl jM205 jq205_132 (jc_ne hl1 jb_r0) (fun c2 => ?_) (fun c2 => ?_)
      · have h2 := jo_n c2 h1
        refine jw_iconst (p := 140) rfl jM205 jq205_139 ?_
        refine jw_iadd (p := 141) rfl jM205 jq205_140 ?_
        refine jg_iasM (p := 142) rfl jM205 jq205_141 (ja_113 s.1) (by decide) (by decide) s (by decide) ?_
        intro σ3 s3
        refine jiL1 (p := 143) rfl jM205 jq205_142 ?_
        refine jw_iconst (p := 144) rfl jM205 jq205_143 ?_
        refine jw_iadd (p := 145) rfl jM205 jq205_144 ?_
        refine jiS3 (p := 146) rfl jM205 jq205_145 ?_
        obtain ⟨c4, h4⟩ := jo_i h2
        exact (jf205_s jo_N).1 hl1 hl2 c4 h4 k σ3 s3
      · have h2 := jo_p (Decidable.byContradiction c2) h1
        refine jw_iconst (p := 136) rfl jM205 jq205_135 ?_
        refine jw_goto jM205 jq205_136 ?_
        refine jw_iadd (p := 141) rfl jM205 jq205_140 ?_
        refine jg_iasM (p := 142) rfl jM205 jq205_141 (ja_113 s.1) (by decide) (by decide) s (by decide) ?_
        intro σ5 s5
        refine jiL1 (p := 143) rfl jM205 jq205_142 ?_
        refine jw_iconst (p := 144) rfl jM205 jq205_143 ?_
        refine jw_iadd (p := 145) rfl jM205 jq205_144 ?_
        refine jiS3 (p := 146) rfl jM205 jq205_145 ?_
        obtain ⟨c6, h6⟩ := jo_i h2
        exact (jf205_s jo_N).1 hl1 hl2 c6 h6 k σ5 s5
    · have h1 := jo_n c1 h
      refine jaL0 (p := 95) rfl jM205 jq205_94 ?_
      refine jw_getP (p := 98) (i := 31) (q := 114) rfl jM205 jq205_95 rfl (jo_92 s.1) je_11_31 (jp_92_31 s.1) ?_
      refine jiL3 (p := 99) rfl jM205 jq205_98 ?_
      refine jiL1 (p := 100) rfl jM205 jq205_99 ?_
      refine jw_if (p := 103) rfl jM205 jq205_100 (jc_ne hl1 jb_r0) (fun c7 => ?_) (fun c7 => ?_)
      · have h7 := jo_n c7 h1
        refine jaL0 (p := 108) rfl jM205 jq205_107 ?_
        refine jw_getP (p := 111) (i := 1) (q := 93) rfl jM205 jq205_108 rfl (jo_92 s.1) je_11_1 (jp_92_1 s.1) ?_
        refine jiL2 (p := 112) rfl jM205 jq205_111 ?_
        refine jw_iconst (p := 113) rfl jM205 jq205_112 ?_
        refine jw_iadd (p := 114) rfl jM205 jq205_113 ?_
        refine jiL3 (p := 115) rfl jM205 jq205_114 ?_
        refine jw_iadd (p := 116) rfl jM205 jq205_115 ?_
        obtain ⟨c8, h8⟩ := jo_i h7
        refine jg_iald (p := 117) rfl jM205 jq205_116 (ja_93 s.1) c8.1 c8.2 s (by decide) rfl ?_
        obtain ⟨c9, h9⟩ := jo_i h8
        refine jg_iast (p := 118) rfl jM205 jq205_117 (ja_114 s.1) c9.1 c9.2 s (by decide) (s.r _ _) ?_
        intro σ10 s10
        refine jiI3 (p := 121) rfl jM205 jq205_118 ?_
        refine jw_goto jM205 jq205_121 ?_
        obtain ⟨c11, h11⟩ := jo_i h9
        exact ih hl1 hl2 c11 h11 k σ10 s10
      · have h7 := jo_p (Decidable.byContradiction c7) h1
        refine jw_iconst (p := 104) rfl jM205 jq205_103 ?_
        refine jw_goto jM205 jq205_104 ?_
        obtain ⟨c12, h12⟩ := jo_i h7
        refine jg_iast (p := 118) rfl jM205 jq205_117 (ja_114 s.1) c12.1 c12.2 s (by decide) (jb_rn rfl) ?_
        intro σ13 s13
        refine jiI3 (p := 121) rfl jM205 jq205_118 ?_
        refine jw_goto jM205 jq205_121 ?_
        obtain ⟨c14, h14⟩ := jo_i h12
        exact ih hl1 hl2 c14 h14 k σ13 s13
def fo205_53 : Nat → jg_G → Int → Int → Int → Option (jg_G × Int)
  | 0, _, _, _, _ => none
  | m + 1, G, l1, l2, l3 => if 4 ≤ l3 then (fo205_88 jo_N G l1 l2 0) else (if l1 = 0 then (if 0 ≤ l3 ∧ l3 < 4 then if -2147483648 ≤ (l3 + 1) ∧ (l3 + 1) < 2147483648 then fo205_53 m (jg_u G 108 l3 0) l1 l2 (l3 + 1) else none else none) else (if 0 ≤ (l2 + l3) ∧ (l2 + l3) < 305118 then if 0 ≤ l3 ∧ l3 < 4 then if -2147483648 ≤ (l3 + 1) ∧ (l3 + 1) < 2147483648 then fo205_53 m (jg_u G 108 l3 (G 93 (l2 + l3))) l1 l2 (l3 + 1) else none else none else none))
theorem jf205_53 {d : Nat} {σ0 : ib_H} {Q : ib_O → Prop} : ∀ (m : Nat) {G : jg_G} {l1 : Int} {l2 : Int} {l3 : Int} (hl1 : jb_r l1) (hl2 : jb_r l2) (hl3 : jb_r l3) {r : jg_G × Int} (h : fo205_53 m G l1 l2 l3 = some r) (k : ∀ σ, jg_S σ0 r.1 σ → Q (.inl none, σ)), jg_W σ0 G (d + 1) 205 53 [some (.ref 92), some (jb_v l1), some (jb_v l2), some (jb_v l3), none, none] [] Q := by
  intro m
  induction m with
  | zero =>
    intro G l1 l2 l3 hl1 hl2 hl3 r h k
    cases h
  | succ m ih =>
    intro G l1 l2 l3 hl1 hl2 hl3 r h k σ s
    unfold fo205_53 at h
    refine jiL3 (p := 54) rfl jM205 jq205_53 ?_
    refine jw_iconst (p := 55) rfl jM205 jq205_54 ?_
    refine jw_ic (p := 58) rfl jM205 jq205_55 (jc_ge hl3 (jb_rn rfl)) (fun c1 => ?_) (fun c1 => ?_)
    · have h1 := jo_p c1 h
      refine jw_iconst (p := 87) rfl jM205 jq205_86 ?_
      refine jiS3 (p := 88) rfl jM205 jq205_87 ?_
      exact jf205_88 jo_N hl1 hl2 (jb_rn rfl) h1 k σ s
    · have h1 := jo_n c1 h
      refine jaL0 (p := 59) rfl jM205 jq205_58 ?_
      refine jw_getP (p := 62) (i := 24) (q := 108) rfl jM205 jq205_59 rfl (jo_92 s.1) je_11_24 (jp_92_24 s.1) ?_
      refine jiL3 (p := 63) rfl jM205 jq205_62 ?_
      refine jiL1 (p := 64) rfl jM205 jq205_63 ?_
      refine jw_if (p := 67) rfl jM205 jq205_64 (jc_ne hl1 jb_r0) (fun c2 => ?_) (fun c2 => ?_)
      · have h2 := jo_n c2 h1
        refine jaL0 (p := 72) rfl jM205 jq205_71 ?_
        refine jw_getP (p := 75) (i := 1) (q := 93) rfl jM205 jq205_72 rfl (jo_92 s.1) je_11_1 (jp_92_1 s.1) ?_
        refine jiL2 (p := 76) rfl jM205 jq205_75 ?_
        refine jiL3 (p := 77) rfl jM205 jq205_76 ?_
        refine jw_iadd (p := 78) rfl jM205 jq205_77 ?_
        obtain ⟨c3, h3⟩ := jo_i h2
        refine jg_iald (p := 79) rfl jM205 jq205_78 (ja_93 s.1) c3.1 c3.2 s (by decide) rfl ?_
        obtain ⟨c4, h4⟩ := jo_i h3
        refine jg_iast (p := 80) rfl jM205 jq205_79 (ja_108 s.1) c4.1 c4.2 s (by decide) (s.r _ _) ?_
        intro σ5 s5
        refine jiI3 (p := 83) rfl jM205 jq205_80 ?_
        refine jw_goto jM205 jq205_83 ?_
        obtain ⟨c6, h6⟩ := jo_i h4
        exact ih hl1 hl2 c6 h6 k σ5 s5
      · have h2 := jo_p (Decidable.byContradiction c2) h1
        refine jw_iconst (p := 68) rfl jM205 jq205_67 ?_
        refine jw_goto jM205 jq205_68 ?_
        obtain ⟨c7, h7⟩ := jo_i h2
        refine jg_iast (p := 80) rfl jM205 jq205_79 (ja_108 s.1) c7.1 c7.2 s (by decide) (jb_rn rfl) ?_
        intro σ8 s8
        refine jiI3 (p := 83) rfl jM205 jq205_80 ?_
        refine jw_goto jM205 jq205_83 ?_
        obtain ⟨c9, h9⟩ := jo_i h7
        exact ih hl1 hl2 c9 h9 k σ8 s8
def fo205_4 : Nat → jg_G → Int → Int → Option (jg_G × Int)
  | 0, _, _, _ => none
  | m + 1, G, l1, l2 => if G 92 12 < l2 then (if l1 = 0 then (fo205_53 jo_N G l1 0 0) else (if -2147483648 ≤ (67 * ((54 + (3 * (l1 - 1))) + 0)) ∧ (67 * ((54 + (3 * (l1 - 1))) + 0)) < 2147483648 then fo205_53 jo_N G l1 (67 * ((54 + (3 * (l1 - 1))) + 0)) 0 else none)) else (if 0 ≤ l2 ∧ l2 < 1501 then if G 98 l2 = 4 then (if -2147483648 ≤ (l2 + 1) ∧ (l2 + 1) < 2147483648 then fo205_4 m G l2 (l2 + 1) else none) else (if -2147483648 ≤ (l2 + 1) ∧ (l2 + 1) < 2147483648 then fo205_4 m G l1 (l2 + 1) else none) else none)
theorem jf205_4 {d : Nat} {σ0 : ib_H} {Q : ib_O → Prop} : ∀ (m : Nat) {G : jg_G} {l1 : Int} {l2 : Int} (hl1 : jb_r l1) (hl2 : jb_r l2) {r : jg_G × Int} (h : fo205_4 m G l1 l2 = some r) (k : ∀ σ, jg_S σ0 r.1 σ → Q (.inl none, σ)), jg_W σ0 G (d + 1) 205 4 [some (.ref 92), some (jb_v l1), some (jb_v l2), none, none, none] [] Q := by
  intro m
  induction m with
  | zero =>
    intro G l1 l2 hl1 hl2 r h k
    cases h
  | succ m ih =>
    intro G l1 l2 hl1 hl2 r h k σ s
    unfold fo205_4 at h
    refine jiL2 (p := 5) rfl jM205 jq205_4 ?_
    refine jaL0 (p := 6) rfl jM205 jq205_5 ?_
    refine jg_getI (p := 9) (i := 12) rfl jM205 jq205_6 rfl (jo_92 s.1) jn_11_12 s (by decide) (by decide) rfl ?_
    refine jw_ic (p := 12) rfl jM205 jq205_9 (jc_gt hl2 (s.r _ _)) (fun c1 => ?_) (fun c1 => ?_)
    · have h1 := jo_p c1 h
      refine jiL1 (p := 35) rfl jM205 jq205_34 ?_
      refine jw_if (p := 38) rfl jM205 jq205_35 (jc_ne hl1 jb_r0) (fun c2 => ?_) (fun c2 => ?_)
      · have h2 := jo_n c2 h1
        refine jw_bipush (p := 44) rfl jM205 jq205_42 (by decide) ?_
        refine jiL1 (p := 45) rfl jM205 jq205_44 ?_
        refine jw_iconst (p := 46) rfl jM205 jq205_45 ?_
        refine jw_callS [(jb_v l1), (jb_v 0)] jM205 jq205_46 rfl rfl rfl jM170 rfl rfl ?_
        show jb_w d 170 0 [some (jb_v l1), some (jb_v 0)] [] σ (jb_k (d + 1) 205 46 [some (.ref 92), some (jb_v l1), some (jb_v l2), none, none, none] [(jb_v 67)] Q)
        refine jw_bipush (p := 2) rfl jM170 jq170_0 (by decide) ?_
        refine jw_iconst (p := 3) rfl jM170 jq170_2 ?_
        refine jiL0 (p := 4) rfl jM170 jq170_3 ?_
        refine jw_iconst (p := 5) rfl jM170 jq170_4 ?_
        refine jw_isub (p := 6) rfl jM170 jq170_5 ?_
        refine jw_imul (p := 7) rfl jM170 jq170_6 ?_
        refine jw_iadd (p := 8) rfl jM170 jq170_7 ?_
        refine jiL1 (p := 9) rfl jM170 jq170_8 ?_
        refine jw_iadd (p := 10) rfl jM170 jq170_9 ?_
        refine jw_iret jM170 jq170_10 (fun z => absurd z (by decide)) ?_
        show jb_w (d + 1) 205 49 [some (.ref 92), some (jb_v l1), some (jb_v l2), none, none, none] [(jb_v ((54 + (3 * (l1 - 1))) + 0)), (jb_v 67)] σ Q
        refine jw_imul (p := 50) rfl jM205 jq205_49 ?_
        refine jiS2 (p := 51) rfl jM205 jq205_50 ?_
        refine jw_iconst (p := 52) rfl jM205 jq205_51 ?_
        refine jiS3 (p := 53) rfl jM205 jq205_52 ?_
        obtain ⟨c3, h3⟩ := jo_i h2
        exact jf205_53 jo_N hl1 c3 (jb_rn rfl) h3 k σ s
      · have h2 := jo_p (Decidable.byContradiction c2) h1
        refine jw_iconst (p := 39) rfl jM205 jq205_38 ?_
        refine jw_goto jM205 jq205_39 ?_
        refine jiS2 (p := 51) rfl jM205 jq205_50 ?_
        refine jw_iconst (p := 52) rfl jM205 jq205_51 ?_
        refine jiS3 (p := 53) rfl jM205 jq205_52 ?_
        exact jf205_53 jo_N hl1 (jb_rn rfl) (jb_rn rfl) h2 k σ s
    · have h1 := jo_n c1 h
      refine jaL0 (p := 13) rfl jM205 jq205_12 ?_
      refine jw_getP (p := 16) (i := 14) (q := 98) rfl jM205 jq205_13 rfl (jo_92 s.1) je_11_14 (jp_92_14 s.1) ?_
      refine jiL2 (p := 17) rfl jM205 jq205_16 ?_
      obtain ⟨c4, h4⟩ := jo_i h1
      refine jg_iald (p := 18) rfl jM205 jq205_17 (ja_98 s.1) c4.1 c4.2 s (by decide) rfl ?_
      refine jw_iconst (p := 19) rfl jM205 jq205_18 ?_
      refine jw_ic (p := 22) rfl jM205 jq205_19 (jc_ne (s.r _ _) (jb_rn rfl)) (fun c5 => ?_) (fun c5 => ?_)
      · have h5 := jo_n c5 h4
        refine jiL1 (p := 27) rfl jM205 jq205_26 ?_
        refine jiS1 (p := 28) rfl jM205 jq205_27 ?_
        refine jiI2 (p := 31) rfl jM205 jq205_28 ?_
        refine jw_goto jM205 jq205_31 ?_
        obtain ⟨c6, h6⟩ := jo_i h5
        exact ih hl1 c6 h6 k σ s
      · have h5 := jo_p (Decidable.byContradiction c5) h4
        refine jiL2 (p := 23) rfl jM205 jq205_22 ?_
        refine jw_goto jM205 jq205_23 ?_
        refine jiS1 (p := 28) rfl jM205 jq205_27 ?_
        refine jiI2 (p := 31) rfl jM205 jq205_28 ?_
        refine jw_goto jM205 jq205_31 ?_
        obtain ⟨c7, h7⟩ := jo_i h5
        exact ih hl2 c7 h7 k σ s
def fo205 (G : jg_G) : Option (jg_G × Int) := fo205_4 jo_N G 0 1
theorem jf205 {d : Nat} {σ0 : ib_H} {Q : ib_O → Prop} {G : jg_G} {r : jg_G × Int} (h : fo205 G  = some r) (k : ∀ σ, jg_S σ0 r.1 σ → Q (.inl none, σ)) : jg_W σ0 G (d + 1) 205 0 [some (.ref 92), none, none, none, none, none] [] Q := by
  intro σ s
  unfold fo205 at h
  refine jw_iconst (p := 1) rfl jM205 jq205_0 ?_
  refine jiS1 (p := 2) rfl jM205 jq205_1 ?_
  refine jw_iconst (p := 3) rfl jM205 jq205_2 ?_
  refine jiS2 (p := 4) rfl jM205 jq205_3 ?_
  exact jf205_4 jo_N (jb_rn rfl) (jb_rn rfl) h k σ s
-- 206 doesAgain need 6
def fo206_s : Nat → Nat → jg_G → Int → Int → Int → Option (jg_G × Int)
  | 0, _, _, _, _, _ => none
  | m + 1, t, G, l1, l2, l3 => if t = 53 then (if G 92 12 < l2 then (some (G, 0)) else (if G 92 7 = 0 then (fo206_s m 70 G l1 l2 0) else (some (G, 0)))) else if t = 70 then (if 0 ≤ l2 ∧ l2 < 1501 then if G 105 l2 ≤ l3 then (if -2147483648 ≤ (l2 + 1) ∧ (l2 + 1) < 2147483648 then fo206_s m 53 G l1 (l2 + 1) 0 else none) else (if G 92 7 = 0 then (if 0 ≤ ((3 * l2) + l3) ∧ ((3 * l2) + l3) < 4503 then if 0 ≤ (G 106 ((3 * l2) + l3)) ∧ (G 106 ((3 * l2) + l3)) < 24 then if G 114 (G 106 ((3 * l2) + l3)) < 1 then (if -2147483648 ≤ (l3 + 1) ∧ (l3 + 1) < 2147483648 then fo206_s m 70 G l1 l2 (l3 + 1) else none) else (if l2 < G 114 (G 106 ((3 * l2) + l3)) then (if -2147483648 ≤ (l3 + 1) ∧ (l3 + 1) < 2147483648 then fo206_s m 70 G l1 l2 (l3 + 1) else none) else ((fo168 G (G 106 ((3 * l2) + l3))).bind fun x14 => if (x14.1) 92 7 = 0 then (jo_l (fr_fo (x14.1) (G 106 ((3 * l2) + l3))) fun x18 => if 0 ≤ ((67 * x18) + 1) ∧ ((67 * x18) + 1) < 305118 then if l2 ≤ (x14.1) 93 ((67 * x18) + 1) then (if -2147483648 ≤ (l3 + 1) ∧ (l3 + 1) < 2147483648 then fo206_s m 70 (x14.1) l1 l2 (l3 + 1) else none) else ((fo173 (x14.1) l2 l3).bind fun x23 => if -2147483648 ≤ (l3 + 1) ∧ (l3 + 1) < 2147483648 then fo206_s m 70 (jg_u (x23.1) 113 1 (jb_m (((x23.1) 113 1) + 1))) l1 l2 (l3 + 1) else none) else none) else (if -2147483648 ≤ (l3 + 1) ∧ (l3 + 1) < 2147483648 then fo206_s m 70 (x14.1) l1 l2 (l3 + 1) else none))) else none else none) else (if -2147483648 ≤ (l2 + 1) ∧ (l2 + 1) < 2147483648 then fo206_s m 53 G l1 (l2 + 1) 0 else none)) else none) else none
theorem jf206_s {d : Nat} {σ0 : ib_H} {Q : ib_O → Prop} : ∀ (m : Nat), (∀ {G : jg_G} {l1 : Int} {l2 : Int} {o3 : Option Value} {o4 : Option Value} (hl1 : jb_r l1) (hl2 : jb_r l2) {r : jg_G × Int} (h : fo206_s m 53 G l1 l2 0 = some r) (k : ∀ σ, jg_S σ0 r.1 σ → Q (.inl none, σ)), jg_W σ0 G (d + 6) 206 53 [some (.ref 92), some (jb_v l1), some (jb_v l2), o3, o4] [] Q) ∧ (∀ {G : jg_G} {l1 : Int} {l2 : Int} {l3 : Int} {o4 : Option Value} (hl1 : jb_r l1) (hl2 : jb_r l2) (hl3 : jb_r l3) {r : jg_G × Int} (h : fo206_s m 70 G l1 l2 l3 = some r) (k : ∀ σ, jg_S σ0 r.1 σ → Q (.inl none, σ)), jg_W σ0 G (d + 6) 206 70 [some (.ref 92), some (jb_v l1), some (jb_v l2), some (jb_v l3), o4] [] Q) := by
  intro m
  induction m with
  | zero =>
    refine ⟨?_, ?_⟩
    · intro G l1 l2 o3 o4 hl1 hl2 r h k
      cases h
    · intro G l1 l2 l3 o4 hl1 hl2 hl3 r h k
      cases h
  | succ m ih =>
    refine ⟨?_, ?_⟩
    · intro G l1 l2 o3 o4 hl1 hl2 r h k σ s
      unfold fo206_s at h
      have h := jo_p rfl h
      refine jiL2 (p := 54) rfl jM206 jq206_53 ?_
      refine jaL0 (p := 55) rfl jM206 jq206_54 ?_
      refine jg_getI (p := 58) (i := 12) rfl jM206 jq206_55 rfl (jo_92 s.1) jn_11_12 s (by decide) (by decide) rfl ?_
      refine jw_ic (p := 61) rfl jM206 jq206_58 (jc_gt hl2 (s.r _ _)) (fun c1 => ?_) (fun c1 => ?_)
      · have h1 := jo_p c1 h
        cases h1
        exact jw_vret jM206 jq206_175 (k σ s)
      · have h1 := jo_n c1 h
        refine jaL0 (p := 62) rfl jM206 jq206_61 ?_
        refine jg_getI (p := 65) (i := 7) rfl jM206 jq206_62 rfl (jo_92 s.1) jn_11_7 s (by decide) (by decide) rfl ?_
        refine jw_if (p := 68) rfl jM206 jq206_65 (jc_ne (s.r _ _) jb_r0) (fun c2 => ?_) (fun c2 => ?_)
        · have h2 := jo_n c2 h1
          cases h2
          exact jw_vret jM206 jq206_175 (k σ s)
        · have h2 := jo_p (Decidable.byContradiction c2) h1
          refine jw_iconst (p := 69) rfl jM206 jq206_68 ?_
          refine jiS3 (p := 70) rfl jM206 jq206_69 ?_
          exact ih.2 hl1 hl2 (jb_rn rfl) h2 k σ s
    · intro G l1 l2 l3 o4 hl1 hl2 hl3 r h k σ s
      unfold fo206_s at h
      have h := jo_p rfl (jo_n (by decide) h)
      refine jiL3 (p := 71) rfl jM206 jq206_70 ?_
      refine jaL0 (p := 72) rfl jM206 jq206_71 ?_
      refine jw_getP (p := 75) (i := 21) (q := 105) rfl jM206 jq206_72 rfl (jo_92 s.1) je_11_21 (jp_92_21 s.1) ?_
      refine jiL2 (p := 76) rfl jM206 jq206_75 ?_
      obtain ⟨c3, h3⟩ := jo_i h
      refine jg_iald (p := 77) rfl jM206 jq206_76 (ja_105 s.1) c3.1 c3.2 s (by decide) rfl ?_
      refine jw_ic (p := 80) rfl jM206 jq206_77 (jc_ge hl3 (s.r _ _)) (fun c4 => ?_) (fun c4 => ?_)
      · have h4 := jo_p c4 h3
        refine jiI2 (p := 172) rfl jM206 jq206_169 ?_
        refine jw_goto jM206 jq206_172 ?_
        obtain ⟨c5, h5⟩ := jo_i h4
        exact ih.1 hl1 c5 h5 k σ s
      · have h4 := jo_n c4 h3
        refine jaL0 (p := 81) rfl jM206 jq206_80 ?_
        refine jg_getI (p := 84) (i := 7) rfl jM206 jq206_81 rfl (jo_92 s.1) jn_11_7 s (by decide) (by decide) rfl ?_
        refine jw_if (p := 87) rfl jM206 jq206_84 (jc_ne (s.r _ _) jb_r0) (fun c6 => ?_) (fun c6 => ?_)
        · have h6 := jo_n c6 h4
          refine jiI2 (p := 172) rfl jM206 jq206_169 ?_
          refine jw_goto jM206 jq206_172 ?_
          obtain ⟨c7, h7⟩ := jo_i h6
          exact ih.1 hl1 c7 h7 k σ s
        · have h6 := jo_p (Decidable.byContradiction c6) h4
          refine jaL0 (p := 88) rfl jM206 jq206_87 ?_
          refine jw_getP (p := 91) (i := 22) (q := 106) rfl jM206 jq206_88 rfl (jo_92 s.1) je_11_22 (jp_92_22 s.1) ?_
          refine jw_iconst (p := 92) rfl jM206 jq206_91 ?_
          refine jiL2 (p := 93) rfl jM206 jq206_92 ?_
          refine jw_imul (p := 94) rfl jM206 jq206_93 ?_
          refine jiL3 (p := 95) rfl jM206 jq206_94 ?_
          refine jw_iadd (p := 96) rfl jM206 jq206_95 ?_
          obtain ⟨c8, h8⟩ := jo_i h6
          refine jg_iald (p := 97) rfl jM206 jq206_96 (ja_106 s.1) c8.1 c8.2 s (by decide) rfl ?_
          refine jiS4 (p := 99) rfl jM206 jq206_97 ?_
          refine jaL0 (p := 100) rfl jM206 jq206_99 ?_
          refine jw_getP (p := 103) (i := 31) (q := 114) rfl jM206 jq206_100 rfl (jo_92 s.1) je_11_31 (jp_92_31 s.1) ?_
          refine jiL4 (p := 105) rfl jM206 jq206_103 ?_
          obtain ⟨c9, h9⟩ := jo_i h8
          refine jg_iald (p := 106) rfl jM206 jq206_105 (ja_114 s.1) c9.1 c9.2 s (by decide) rfl ?_
          refine jw_iconst (p := 107) rfl jM206 jq206_106 ?_
          refine jiL2 (p := 108) rfl jM206 jq206_107 ?_
          refine jw_callS [(jb_v (G 114 (G 106 ((3 * l2) + l3)))), (jb_v 1), (jb_v l2)] jM206 jq206_108 rfl rfl rfl jM147 rfl rfl ?_
          show jb_w (d + 5) 147 0 [some (jb_v (G 114 (G 106 ((3 * l2) + l3)))), some (jb_v 1), some (jb_v l2)] [] σ (jb_k (d + 6) 206 108 [some (.ref 92), some (jb_v l1), some (jb_v l2), some (jb_v l3), some (jb_v (G 106 ((3 * l2) + l3)))] [] Q)
          refine jiL0 (p := 1) rfl jM147 jq147_0 ?_
          refine jiL1 (p := 2) rfl jM147 jq147_1 ?_
          refine jw_ic (p := 5) rfl jM147 jq147_2 (jc_lt (s.r _ _) (jb_rn rfl)) (fun c10 => ?_) (fun c10 => ?_)
          · have h10 := jo_p c10 h9
            refine jw_iconst (p := 15) rfl jM147 jq147_14 ?_
            refine jw_iret jM147 jq147_15 (fun _ => Or.inl rfl) ?_
            show jb_w (d + 6) 206 111 [some (.ref 92), some (jb_v l1), some (jb_v l2), some (jb_v l3), some (jb_v (G 106 ((3 * l2) + l3)))] [(jb_v 0)] σ Q
            refine jw_if (p := 114) rfl jM206 jq206_111 (jc_eq (jb_rn rfl) jb_r0) (fun _ => ?_) (fun z => absurd (by decide) z)
            refine jiI3 (p := 166) rfl jM206 jq206_163 ?_
            refine jw_goto jM206 jq206_166 ?_
            obtain ⟨c11, h11⟩ := jo_i h10
            exact ih.2 hl1 hl2 c11 h11 k σ s
          · have h10 := jo_n c10 h9
            refine jiL0 (p := 6) rfl jM147 jq147_5 ?_
            refine jiL2 (p := 7) rfl jM147 jq147_6 ?_
            refine jw_ic (p := 10) rfl jM147 jq147_7 (jc_gt (s.r _ _) hl2) (fun c12 => ?_) (fun c12 => ?_)
            · have h12 := jo_p c12 h10
              refine jw_iconst (p := 15) rfl jM147 jq147_14 ?_
              refine jw_iret jM147 jq147_15 (fun _ => Or.inl rfl) ?_
              show jb_w (d + 6) 206 111 [some (.ref 92), some (jb_v l1), some (jb_v l2), some (jb_v l3), some (jb_v (G 106 ((3 * l2) + l3)))] [(jb_v 0)] σ Q
              refine jw_if (p := 114) rfl jM206 jq206_111 (jc_eq (jb_rn rfl) jb_r0) (fun _ => ?_) (fun z => absurd (by decide) z)
              refine jiI3 (p := 166) rfl jM206 jq206_163 ?_
              refine jw_goto jM206 jq206_166 ?_
              obtain ⟨c13, h13⟩ := jo_i h12
              exact ih.2 hl1 hl2 c13 h13 k σ s
            · have h12 := jo_n c12 h10
              refine jw_iconst (p := 11) rfl jM147 jq147_10 ?_
              refine jw_goto jM147 jq147_11 ?_
              refine jw_iret jM147 jq147_15 (fun _ => Or.inr rfl) ?_
              show jb_w (d + 6) 206 111 [some (.ref 92), some (jb_v l1), some (jb_v l2), some (jb_v l3), some (jb_v (G 106 ((3 * l2) + l3)))] [(jb_v 1)] σ Q
              refine jw_if (p := 114) rfl jM206 jq206_111 (jc_eq (jb_rn rfl) jb_r0) (fun z => absurd z (by decide)) (fun _ => ?_)
              refine jaL0 (p := 115) rfl jM206 jq206_114 ?_
              refine jiL4 (p := 117) rfl jM206 jq206_115 ?_
              refine jw_callV [(jb_v (G 106 ((3 * l2) + l3)))] jM206 jq206_117 rfl rfl (jo_92 s.1) rfl jM168 rfl rfl ?_
              obtain ⟨x14, b15, h15⟩ := jo_b h12
              refine jf168 (s.r _ _) b15 (fun σ14 s14 => ?_) σ s
              show jb_w (d + 6) 206 120 [some (.ref 92), some (jb_v l1), some (jb_v l2), some (jb_v l3), some (jb_v (G 106 ((3 * l2) + l3)))] [] σ14 Q
              refine jaL0 (p := 121) rfl jM206 jq206_120 ?_
              refine jg_getI (p := 124) (i := 7) rfl jM206 jq206_121 rfl (jo_92 s14.1) jn_11_7 s14 (by decide) (by decide) rfl ?_
              refine jw_if (p := 127) rfl jM206 jq206_124 (jc_ne (s14.r _ _) jb_r0) (fun c16 => ?_) (fun c16 => ?_)
              · have h16 := jo_n c16 h15
                refine jiI3 (p := 166) rfl jM206 jq206_163 ?_
                refine jw_goto jM206 jq206_166 ?_
                obtain ⟨c17, h17⟩ := jo_i h16
                exact ih.2 hl1 hl2 c17 h17 k σ14 s14
              · have h16 := jo_p (Decidable.byContradiction c16) h15
                refine jaL0 (p := 128) rfl jM206 jq206_127 ?_
                refine jw_getP (p := 131) (i := 1) (q := 93) rfl jM206 jq206_128 rfl (jo_92 s14.1) je_11_1 (jp_92_1 s14.1) ?_
                refine jw_bipush (p := 133) rfl jM206 jq206_131 (by decide) ?_
                refine jaL0 (p := 134) rfl jM206 jq206_133 ?_
                refine jiL4 (p := 136) rfl jM206 jq206_134 ?_
                refine jw_callV [(jb_v (G 106 ((3 * l2) + l3)))] jM206 jq206_136 rfl rfl (jo_92 s14.1) rfl jM160 rfl rfl ?_
                obtain ⟨x18, e19, h19⟩ := jo_lb h16
                refine cs160 (s.r _ _) (fun σ18 s18 r18 => ?_) σ14 s14
                rw [e19] at r18 ⊢
                show jb_w (d + 6) 206 139 [some (.ref 92), some (jb_v l1), some (jb_v l2), some (jb_v l3), some (jb_v (G 106 ((3 * l2) + l3)))] [(jb_v x18), (jb_v 67), (.ref 93)] σ18 Q
                refine jw_imul (p := 140) rfl jM206 jq206_139 ?_
                refine jw_iconst (p := 141) rfl jM206 jq206_140 ?_
                refine jw_iadd (p := 142) rfl jM206 jq206_141 ?_
                obtain ⟨c20, h20⟩ := jo_i h19
                refine jg_iald (p := 143) rfl jM206 jq206_142 (ja_93 s18.1) c20.1 c20.2 s18 (by decide) rfl ?_
                refine jiL2 (p := 144) rfl jM206 jq206_143 ?_
                refine jw_ic (p := 147) rfl jM206 jq206_144 (jc_ge (s14.r _ _) hl2) (fun c21 => ?_) (fun c21 => ?_)
                · have h21 := jo_p c21 h20
                  refine jiI3 (p := 166) rfl jM206 jq206_163 ?_
                  refine jw_goto jM206 jq206_166 ?_
                  obtain ⟨c22, h22⟩ := jo_i h21
                  exact ih.2 hl1 hl2 c22 h22 k σ18 s18
                · have h21 := jo_n c21 h20
                  refine jaL0 (p := 148) rfl jM206 jq206_147 ?_
                  refine jiL2 (p := 149) rfl jM206 jq206_148 ?_
                  refine jiL3 (p := 150) rfl jM206 jq206_149 ?_
                  refine jw_callV [(jb_v l2), (jb_v l3)] jM206 jq206_150 rfl rfl (jo_92 s18.1) rfl jM173 rfl rfl ?_
                  obtain ⟨x23, b24, h24⟩ := jo_b h21
                  refine jf173 hl2 hl3 b24 (fun σ23 s23 => ?_) σ18 s18
                  show jb_w (d + 6) 206 153 [some (.ref 92), some (jb_v l1), some (jb_v l2), some (jb_v l3), some (jb_v (G 106 ((3 * l2) + l3)))] [] σ23 Q
                  refine jaL0 (p := 154) rfl jM206 jq206_153 ?_
                  refine jw_getP (p := 157) (i := 30) (q := 113) rfl jM206 jq206_154 rfl (jo_92 s23.1) je_11_30 (jp_92_30 s23.1) ?_
                  refine jw_iconst (p := 158) rfl jM206 jq206_157 ?_
                  refine jw_dup2 (p := 159) rfl jM206 jq206_158 ?_
                  refine jg_iald (p := 160) rfl jM206 jq206_159 (ja_113 s23.1) (by decide) (by decide) s23 (by decide) rfl ?_
                  refine jw_iconst (p := 161) rfl jM206 jq206_160 ?_
                  refine jw_iadd (p := 162) rfl jM206 jq206_161 ?_
                  refine jg_iasM (p := 163) rfl jM206 jq206_162 (ja_113 s23.1) (by decide) (by decide) s23 (by decide) ?_
                  intro σ25 s25
                  refine jiI3 (p := 166) rfl jM206 jq206_163 ?_
                  refine jw_goto jM206 jq206_166 ?_
                  obtain ⟨c26, h26⟩ := jo_i h24
                  exact ih.2 hl1 hl2 c26 h26 k σ25 s25

def fo206_9 : Nat → jg_G → Int → Int → Option (jg_G × Int)
  | 0, _, _, _ => none
  | m + 1, G, l1, l2 => if 24 ≤ l2 then (fo206_s jo_N 53 G l1 l1 0) else (if 0 ≤ l2 ∧ l2 < 24 then if G 114 l2 ≤ 0 then (if -2147483648 ≤ (l2 + 1) ∧ (l2 + 1) < 2147483648 then fo206_9 m G l1 (l2 + 1) else none) else (if l1 ≤ G 114 l2 then (if -2147483648 ≤ (l2 + 1) ∧ (l2 + 1) < 2147483648 then fo206_9 m G l1 (l2 + 1) else none) else (if -2147483648 ≤ (l2 + 1) ∧ (l2 + 1) < 2147483648 then fo206_9 m G (G 114 l2) (l2 + 1) else none)) else none)
theorem jf206_9 {d : Nat} {σ0 : ib_H} {Q : ib_O → Prop} : ∀ (m : Nat) {G : jg_G} {l1 : Int} {l2 : Int} (hl1 : jb_r l1) (hl2 : jb_r l2) {r : jg_G × Int} (h : fo206_9 m G l1 l2 = some r) (k : ∀ σ, jg_S σ0 r.1 σ → Q (.inl none, σ)), jg_W σ0 G (d + 6) 206 9 [some (.ref 92), some (jb_v l1), some (jb_v l2), none, none] [] Q := by
  intro m
  induction m with
  | zero =>
    intro G l1 l2 hl1 hl2 r h k
    cases h
  | succ m ih =>
    intro G l1 l2 hl1 hl2 r h k σ s
    unfold fo206_9 at h
    refine jiL2 (p := 10) rfl jM206 jq206_9 ?_
    refine jw_bipush (p := 12) rfl jM206 jq206_10 (by decide) ?_
    refine jw_ic (p := 15) rfl jM206 jq206_12 (jc_ge hl2 (jb_rn rfl)) (fun c1 => ?_) (fun c1 => ?_)
    · have h1 := jo_p c1 h
      refine jiL1 (p := 52) rfl jM206 jq206_51 ?_
      refine jiS2 (p := 53) rfl jM206 jq206_52 ?_
      exact (jf206_s jo_N).1 hl1 hl1 h1 k σ s
    · have h1 := jo_n c1 h
      refine jaL0 (p := 16) rfl jM206 jq206_15 ?_
      refine jw_getP (p := 19) (i := 31) (q := 114) rfl jM206 jq206_16 rfl (jo_92 s.1) je_11_31 (jp_92_31 s.1) ?_
      refine jiL2 (p := 20) rfl jM206 jq206_19 ?_
      obtain ⟨c2, h2⟩ := jo_i h1
      refine jg_iald (p := 21) rfl jM206 jq206_20 (ja_114 s.1) c2.1 c2.2 s (by decide) rfl ?_
      refine jw_if (p := 24) rfl jM206 jq206_21 (jc_le (s.r _ _) jb_r0) (fun c3 => ?_) (fun c3 => ?_)
      · have h3 := jo_p c3 h2
        refine jiL1 (p := 44) rfl jM206 jq206_43 ?_
        refine jiS1 (p := 45) rfl jM206 jq206_44 ?_
        refine jiI2 (p := 48) rfl jM206 jq206_45 ?_
        refine jw_goto jM206 jq206_48 ?_
        obtain ⟨c4, h4⟩ := jo_i h3
        exact ih hl1 c4 h4 k σ s
      · have h3 := jo_n c3 h2
        refine jaL0 (p := 25) rfl jM206 jq206_24 ?_
        refine jw_getP (p := 28) (i := 31) (q := 114) rfl jM206 jq206_25 rfl (jo_92 s.1) je_11_31 (jp_92_31 s.1) ?_
        refine jiL2 (p := 29) rfl jM206 jq206_28 ?_
        refine jg_iald (p := 30) rfl jM206 jq206_29 (ja_114 s.1) c2.1 c2.2 s (by decide) rfl ?_
        refine jiL1 (p := 31) rfl jM206 jq206_30 ?_
        refine jw_ic (p := 34) rfl jM206 jq206_31 (jc_ge (s.r _ _) hl1) (fun c5 => ?_) (fun c5 => ?_)
        · have h5 := jo_p c5 h3
          refine jiL1 (p := 44) rfl jM206 jq206_43 ?_
          refine jiS1 (p := 45) rfl jM206 jq206_44 ?_
          refine jiI2 (p := 48) rfl jM206 jq206_45 ?_
          refine jw_goto jM206 jq206_48 ?_
          obtain ⟨c6, h6⟩ := jo_i h5
          exact ih hl1 c6 h6 k σ s
        · have h5 := jo_n c5 h3
          refine jaL0 (p := 35) rfl jM206 jq206_34 ?_
          refine jw_getP (p := 38) (i := 31) (q := 114) rfl jM206 jq206_35 rfl (jo_92 s.1) je_11_31 (jp_92_31 s.1) ?_
          refine jiL2 (p := 39) rfl jM206 jq206_38 ?_
          refine jg_iald (p := 40) rfl jM206 jq206_39 (ja_114 s.1) c2.1 c2.2 s (by decide) rfl ?_
          refine jw_goto jM206 jq206_40 ?_
          refine jiS1 (p := 45) rfl jM206 jq206_44 ?_
          refine jiI2 (p := 48) rfl jM206 jq206_45 ?_
          refine jw_goto jM206 jq206_48 ?_
          obtain ⟨c7, h7⟩ := jo_i h5
          exact ih (s.r _ _) c7 h7 k σ s
def fo206 (G : jg_G) : Option (jg_G × Int) := if -2147483648 ≤ ((G 92 12) + 1) ∧ ((G 92 12) + 1) < 2147483648 then fo206_9 jo_N G ((G 92 12) + 1) 0 else none
theorem jf206 {d : Nat} {σ0 : ib_H} {Q : ib_O → Prop} {G : jg_G} {r : jg_G × Int} (h : fo206 G  = some r) (k : ∀ σ, jg_S σ0 r.1 σ → Q (.inl none, σ)) : jg_W σ0 G (d + 6) 206 0 [some (.ref 92), none, none, none, none] [] Q := by
  intro σ s
  unfold fo206 at h
  refine jaL0 (p := 1) rfl jM206 jq206_0 ?_
  refine jg_getI (p := 4) (i := 12) rfl jM206 jq206_1 rfl (jo_92 s.1) jn_11_12 s (by decide) (by decide) rfl ?_
  refine jw_iconst (p := 5) rfl jM206 jq206_4 ?_
  refine jw_iadd (p := 6) rfl jM206 jq206_5 ?_
  refine jiS1 (p := 7) rfl jM206 jq206_6 ?_
  refine jw_iconst (p := 8) rfl jM206 jq206_7 ?_
  refine jiS2 (p := 9) rfl jM206 jq206_8 ?_
  obtain ⟨c1, h1⟩ := jo_i h
  exact jf206_9 jo_N c1 (jb_rn rfl) h1 k σ s
-- 207 aboveOf need 2
def fo207_s : Nat → Nat → jg_G → Int → Int → Int → Int → Int → Option (jg_G × Int)
  | 0, _, _, _, _, _, _, _ => none
  | m + 1, t, G, l1, l2, l3, l4, l5 => if t = 5 then (if l3 < 0 then (some (G, l2)) else (if 0 ≤ l3 ∧ l3 < 24 then jo_l (fr_ro G l3) fun x3 => fo207_s m 19 G l1 l2 l3 x3 0 else none)) else if t = 19 then (if 0 ≤ (67 * l4) ∧ (67 * l4) < 305118 then if G 93 (67 * l4) = 2 then (if 0 ≤ ((67 * l4) + 2) ∧ ((67 * l4) + 2) < 305118 then if G 93 ((67 * l4) + 2) ≤ l5 then (if -2147483648 ≤ (l3 + (-1)) ∧ (l3 + (-1)) < 2147483648 then fo207_s m 5 G l1 l2 (l3 + (-1)) 0 0 else none) else (if 0 ≤ (((67 * l4) + 4) + (2 * l5)) ∧ (((67 * l4) + 4) + (2 * l5)) < 305118 then if G 93 (((67 * l4) + 4) + (2 * l5)) = l1 then (if -2147483648 ≤ (l5 + 1) ∧ (l5 + 1) < 2147483648 then fo207_s m 19 G l1 l3 l3 l4 (l5 + 1) else none) else (if -2147483648 ≤ (l5 + 1) ∧ (l5 + 1) < 2147483648 then fo207_s m 19 G l1 l2 l3 l4 (l5 + 1) else none) else none) else none) else (if -2147483648 ≤ (l3 + (-1)) ∧ (l3 + (-1)) < 2147483648 then fo207_s m 5 G l1 l2 (l3 + (-1)) 0 0 else none) else none) else none
theorem jf207_s {d : Nat} {σ0 : ib_H} {Q : ib_O → Prop} : ∀ (m : Nat), (∀ {G : jg_G} {l1 : Int} {l2 : Int} {l3 : Int} {o4 : Option Value} {o5 : Option Value} (hl1 : jb_r l1) (hl2 : jb_r l2) (hl3 : jb_r l3) {r : jg_G × Int} (h : fo207_s m 5 G l1 l2 l3 0 0 = some r) (k : ∀ σ, jg_S σ0 r.1 σ → jb_r r.2 → Q (.inl (some (jb_v r.2)), σ)), jg_W σ0 G (d + 2) 207 5 [some (.ref 92), some (jb_v l1), some (jb_v l2), some (jb_v l3), o4, o5] [] Q) ∧ (∀ {G : jg_G} {l1 : Int} {l2 : Int} {l3 : Int} {l4 : Int} {l5 : Int} (hl1 : jb_r l1) (hl2 : jb_r l2) (hl3 : jb_r l3) (hl4 : jb_r l4) (hl5 : jb_r l5) {r : jg_G × Int} (h : fo207_s m 19 G l1 l2 l3 l4 l5 = some r) (k : ∀ σ, jg_S σ0 r.1 σ → jb_r r.2 → Q (.inl (some (jb_v r.2)), σ)), jg_W σ0 G (d + 2) 207 19 [some (.ref 92), some (jb_v l1), some (jb_v l2), some (jb_v l3), some (jb_v l4), some (jb_v l5)] [] Q) := by
  intro m
  induction m with
  | zero =>
    refine ⟨?_, ?_⟩
    · intro G l1 l2 l3 o4 o5 hl1 hl2 hl3 r h k
      cases h
    · intro G l1 l2 l3 l4 l5 hl1 hl2 hl3 hl4 hl5 r h k
      cases h
  | succ m ih =>
    refine ⟨?_, ?_⟩
    · intro G l1 l2 l3 o4 o5 hl1 hl2 hl3 r h k σ s
      unfold fo207_s at h
      have h := jo_p rfl h
      refine jiL3 (p := 6) rfl jM207 jq207_5 ?_
      refine jw_if (p := 9) rfl jM207 jq207_6 (jc_lt hl3 jb_r0) (fun c1 => ?_) (fun c1 => ?_)
      · have h1 := jo_p c1 h
        refine jiL2 (p := 71) rfl jM207 jq207_70 ?_
        cases h1
        exact jw_iret jM207 jq207_71 (fun z => absurd z (by decide)) (k σ s hl2)
      · have h1 := jo_n c1 h
        refine jaL0 (p := 10) rfl jM207 jq207_9 ?_
        refine jiL3 (p := 11) rfl jM207 jq207_10 ?_
        refine jw_callV [(jb_v l3)] jM207 jq207_11 rfl rfl (jo_92 s.1) rfl jM161 rfl rfl ?_
        obtain ⟨c2, h2⟩ := jo_i h1
        obtain ⟨x3, e4, h4⟩ := jo_lb h2
        refine cs161 c2 (fun σ3 s3 r3 => ?_) σ s
        rw [e4] at r3 ⊢
        show jb_w (d + 2) 207 14 [some (.ref 92), some (jb_v l1), some (jb_v l2), some (jb_v l3), o4, o5] [(jb_v x3)] σ3 Q
        refine jiS4 (p := 16) rfl jM207 jq207_14 ?_
        refine jw_iconst (p := 17) rfl jM207 jq207_16 ?_
        refine jiS5 (p := 19) rfl jM207 jq207_17 ?_
        exact ih.2 hl1 hl2 hl3 r3 (jb_rn rfl) h4 k σ3 s3
    · intro G l1 l2 l3 l4 l5 hl1 hl2 hl3 hl4 hl5 r h k σ s
      unfold fo207_s at h
      have h := jo_p rfl (jo_n (by decide) h)
      refine jaL0 (p := 20) rfl jM207 jq207_19 ?_
      refine jiL4 (p := 22) rfl jM207 jq207_20 ?_
      refine jw_callV [(jb_v l4)] jM207 jq207_22 rfl rfl (jo_92 s.1) rfl jM149 rfl rfl ?_
      show jb_w (d + 1) 149 0 [some (.ref 92), some (jb_v l4)] [] σ (jb_k (d + 2) 207 22 [some (.ref 92), some (jb_v l1), some (jb_v l2), some (jb_v l3), some (jb_v l4), some (jb_v l5)] [] Q)
      refine jaL0 (p := 1) rfl jM149 jq149_0 ?_
      refine jw_getP (p := 4) (i := 1) (q := 93) rfl jM149 jq149_1 rfl (jo_92 s.1) je_11_1 (jp_92_1 s.1) ?_
      refine jw_bipush (p := 6) rfl jM149 jq149_4 (by decide) ?_
      refine jiL1 (p := 7) rfl jM149 jq149_6 ?_
      refine jw_imul (p := 8) rfl jM149 jq149_7 ?_
      obtain ⟨c5, h5⟩ := jo_i h
      refine jg_iald (p := 9) rfl jM149 jq149_8 (ja_93 s.1) c5.1 c5.2 s (by decide) rfl ?_
      refine jw_iret jM149 jq149_9 (fun z => absurd z (by decide)) ?_
      show jb_w (d + 2) 207 25 [some (.ref 92), some (jb_v l1), some (jb_v l2), some (jb_v l3), some (jb_v l4), some (jb_v l5)] [(jb_v (G 93 (67 * l4)))] σ Q
      refine jw_iconst (p := 26) rfl jM207 jq207_25 ?_
      refine jw_ic (p := 29) rfl jM207 jq207_26 (jc_ne (s.r _ _) (jb_rn rfl)) (fun c6 => ?_) (fun c6 => ?_)
      · have h6 := jo_n c6 h5
        refine jiI3 (p := 67) rfl jM207 jq207_64 ?_
        refine jw_goto jM207 jq207_67 ?_
        obtain ⟨c7, h7⟩ := jo_i h6
        exact ih.1 hl1 hl2 c7 h7 k σ s
      · have h6 := jo_p (Decidable.byContradiction c6) h5
        refine jiL5 (p := 31) rfl jM207 jq207_29 ?_
        refine jaL0 (p := 32) rfl jM207 jq207_31 ?_
        refine jiL4 (p := 34) rfl jM207 jq207_32 ?_
        refine jw_callV [(jb_v l4)] jM207 jq207_34 rfl rfl (jo_92 s.1) rfl jM150 rfl rfl ?_
        show jb_w (d + 1) 150 0 [some (.ref 92), some (jb_v l4)] [] σ (jb_k (d + 2) 207 34 [some (.ref 92), some (jb_v l1), some (jb_v l2), some (jb_v l3), some (jb_v l4), some (jb_v l5)] [(jb_v l5)] Q)
        refine jaL0 (p := 1) rfl jM150 jq150_0 ?_
        refine jw_getP (p := 4) (i := 1) (q := 93) rfl jM150 jq150_1 rfl (jo_92 s.1) je_11_1 (jp_92_1 s.1) ?_
        refine jw_bipush (p := 6) rfl jM150 jq150_4 (by decide) ?_
        refine jiL1 (p := 7) rfl jM150 jq150_6 ?_
        refine jw_imul (p := 8) rfl jM150 jq150_7 ?_
        refine jw_iconst (p := 9) rfl jM150 jq150_8 ?_
        refine jw_iadd (p := 10) rfl jM150 jq150_9 ?_
        obtain ⟨c8, h8⟩ := jo_i h6
        refine jg_iald (p := 11) rfl jM150 jq150_10 (ja_93 s.1) c8.1 c8.2 s (by decide) rfl ?_
        refine jw_iret jM150 jq150_11 (fun z => absurd z (by decide)) ?_
        show jb_w (d + 2) 207 37 [some (.ref 92), some (jb_v l1), some (jb_v l2), some (jb_v l3), some (jb_v l4), some (jb_v l5)] [(jb_v (G 93 ((67 * l4) + 2))), (jb_v l5)] σ Q
        refine jw_ic (p := 40) rfl jM207 jq207_37 (jc_ge hl5 (s.r _ _)) (fun c9 => ?_) (fun c9 => ?_)
        · have h9 := jo_p c9 h8
          refine jiI3 (p := 67) rfl jM207 jq207_64 ?_
          refine jw_goto jM207 jq207_67 ?_
          obtain ⟨c10, h10⟩ := jo_i h9
          exact ih.1 hl1 hl2 c10 h10 k σ s
        · have h9 := jo_n c9 h8
          refine jaL0 (p := 41) rfl jM207 jq207_40 ?_
          refine jiL4 (p := 43) rfl jM207 jq207_41 ?_
          refine jiL5 (p := 45) rfl jM207 jq207_43 ?_
          refine jw_callV [(jb_v l4), (jb_v l5)] jM207 jq207_45 rfl rfl (jo_92 s.1) rfl jM152 rfl rfl ?_
          show jb_w (d + 1) 152 0 [some (.ref 92), some (jb_v l4), some (jb_v l5)] [] σ (jb_k (d + 2) 207 45 [some (.ref 92), some (jb_v l1), some (jb_v l2), some (jb_v l3), some (jb_v l4), some (jb_v l5)] [] Q)
          refine jaL0 (p := 1) rfl jM152 jq152_0 ?_
          refine jw_getP (p := 4) (i := 1) (q := 93) rfl jM152 jq152_1 rfl (jo_92 s.1) je_11_1 (jp_92_1 s.1) ?_
          refine jw_bipush (p := 6) rfl jM152 jq152_4 (by decide) ?_
          refine jiL1 (p := 7) rfl jM152 jq152_6 ?_
          refine jw_imul (p := 8) rfl jM152 jq152_7 ?_
          refine jw_iconst (p := 9) rfl jM152 jq152_8 ?_
          refine jw_iadd (p := 10) rfl jM152 jq152_9 ?_
          refine jw_iconst (p := 11) rfl jM152 jq152_10 ?_
          refine jiL2 (p := 12) rfl jM152 jq152_11 ?_
          refine jw_imul (p := 13) rfl jM152 jq152_12 ?_
          refine jw_iadd (p := 14) rfl jM152 jq152_13 ?_
          obtain ⟨c11, h11⟩ := jo_i h9
          refine jg_iald (p := 15) rfl jM152 jq152_14 (ja_93 s.1) c11.1 c11.2 s (by decide) rfl ?_
          refine jw_iret jM152 jq152_15 (fun z => absurd z (by decide)) ?_
          show jb_w (d + 2) 207 48 [some (.ref 92), some (jb_v l1), some (jb_v l2), some (jb_v l3), some (jb_v l4), some (jb_v l5)] [(jb_v (G 93 (((67 * l4) + 4) + (2 * l5))))] σ Q
          refine jiL1 (p := 49) rfl jM207 jq207_48 ?_
          refine jw_ic (p := 52) rfl jM207 jq207_49 (jc_ne (s.r _ _) hl1) (fun c12 => ?_) (fun c12 => ?_)
          · have h12 := jo_n c12 h11
            refine jiL2 (p := 57) rfl jM207 jq207_56 ?_
            refine jiS2 (p := 58) rfl jM207 jq207_57 ?_
            refine jiI5 (p := 61) rfl jM207 jq207_58 ?_
            refine jw_goto jM207 jq207_61 ?_
            obtain ⟨c13, h13⟩ := jo_i h12
            exact ih.2 hl1 hl2 hl3 hl4 c13 h13 k σ s
          · have h12 := jo_p (Decidable.byContradiction c12) h11
            refine jiL3 (p := 53) rfl jM207 jq207_52 ?_
            refine jw_goto jM207 jq207_53 ?_
            refine jiS2 (p := 58) rfl jM207 jq207_57 ?_
            refine jiI5 (p := 61) rfl jM207 jq207_58 ?_
            refine jw_goto jM207 jq207_61 ?_
            obtain ⟨c14, h14⟩ := jo_i h12
            exact ih.2 hl1 hl3 hl3 hl4 c14 h14 k σ s

def fo207 (G : jg_G) (l1 : Int) : Option (jg_G × Int) := fo207_s jo_N 5 G l1 (-1) 23 0 0
theorem jf207 {d : Nat} {σ0 : ib_H} {Q : ib_O → Prop} {G : jg_G} {l1 : Int} (hl1 : jb_r l1) {r : jg_G × Int} (h : fo207 G l1 = some r) (k : ∀ σ, jg_S σ0 r.1 σ → jb_r r.2 → Q (.inl (some (jb_v r.2)), σ)) : jg_W σ0 G (d + 2) 207 0 [some (.ref 92), some (jb_v l1), none, none, none, none] [] Q := by
  intro σ s
  unfold fo207 at h
  refine jw_iconst (p := 1) rfl jM207 jq207_0 ?_
  refine jiS2 (p := 2) rfl jM207 jq207_1 ?_
  refine jw_bipush (p := 4) rfl jM207 jq207_2 (by decide) ?_
  refine jiS3 (p := 5) rfl jM207 jq207_4 ?_
  exact (jf207_s jo_N).1 hl1 (jb_rn rfl) (jb_rn rfl) h k σ s
-- 208 idle need 3
def fo208_5 : Nat → jg_G → Int → Int → Option (jg_G × Int)
  | 0, _, _, _ => none
  | m + 1, G, l1, l2 => if l2 ≤ 0 then (some (G, l1)) else (if 0 ≤ l2 ∧ l2 < 24 then jo_l (fr_ro G l2) fun x3 => if 0 ≤ (67 * x3) ∧ (67 * x3) < 305118 then if G 93 (67 * x3) = 0 then (if -2147483648 ≤ (l2 + (-1)) ∧ (l2 + (-1)) < 2147483648 then fo208_5 m G l1 (l2 + (-1)) else none) else (jo_l (fr_ro G l2) fun x8 => if 0 ≤ ((67 * x8) + 2) ∧ ((67 * x8) + 2) < 305118 then if G 93 ((67 * x8) + 2) = 0 then ((fo207 G l2).bind fun x13 => if x13.2 = (-1) then (if -2147483648 ≤ (l2 + (-1)) ∧ (l2 + (-1)) < 2147483648 then fo208_5 m (x13.1) l1 (l2 + (-1)) else none) else (if -2147483648 ≤ (l2 + (-1)) ∧ (l2 + (-1)) < 2147483648 then fo208_5 m (x13.1) l2 (l2 + (-1)) else none)) else (if -2147483648 ≤ (l2 + (-1)) ∧ (l2 + (-1)) < 2147483648 then fo208_5 m G l1 (l2 + (-1)) else none) else none) else none else none)
theorem jf208_5 {d : Nat} {σ0 : ib_H} {Q : ib_O → Prop} : ∀ (m : Nat) {G : jg_G} {l1 : Int} {l2 : Int} {o3 : Option Value} (hl1 : jb_r l1) (hl2 : jb_r l2) {r : jg_G × Int} (h : fo208_5 m G l1 l2 = some r) (k : ∀ σ, jg_S σ0 r.1 σ → jb_r r.2 → Q (.inl (some (jb_v r.2)), σ)), jg_W σ0 G (d + 3) 208 5 [some (.ref 92), some (jb_v l1), some (jb_v l2), o3] [] Q := by
  intro m
  induction m with
  | zero =>
    intro G l1 l2 o3 hl1 hl2 r h k
    cases h
  | succ m ih =>
    intro G l1 l2 o3 hl1 hl2 r h k σ s
    unfold fo208_5 at h
    refine jiL2 (p := 6) rfl jM208 jq208_5 ?_
    refine jw_if (p := 9) rfl jM208 jq208_6 (jc_le hl2 jb_r0) (fun c1 => ?_) (fun c1 => ?_)
    · have h1 := jo_p c1 h
      refine jiL1 (p := 65) rfl jM208 jq208_64 ?_
      cases h1
      exact jw_iret jM208 jq208_65 (fun z => absurd z (by decide)) (k σ s hl1)
    · have h1 := jo_n c1 h
      refine jaL0 (p := 10) rfl jM208 jq208_9 ?_
      refine jaL0 (p := 11) rfl jM208 jq208_10 ?_
      refine jiL2 (p := 12) rfl jM208 jq208_11 ?_
      refine jw_callV [(jb_v l2)] jM208 jq208_12 rfl rfl (jo_92 s.1) rfl jM161 rfl rfl ?_
      obtain ⟨c2, h2⟩ := jo_i h1
      obtain ⟨x3, e4, h4⟩ := jo_lb h2
      refine cs161 c2 (fun σ3 s3 r3 => ?_) σ s
      rw [e4] at r3 ⊢
      show jb_w (d + 3) 208 15 [some (.ref 92), some (jb_v l1), some (jb_v l2), o3] [(jb_v x3), (.ref 92)] σ3 Q
      refine jw_callV [(jb_v x3)] jM208 jq208_15 rfl rfl (jo_92 s3.1) rfl jM149 rfl rfl ?_
      show jb_w (d + 2) 149 0 [some (.ref 92), some (jb_v x3)] [] σ3 (jb_k (d + 3) 208 15 [some (.ref 92), some (jb_v l1), some (jb_v l2), o3] [] Q)
      refine jaL0 (p := 1) rfl jM149 jq149_0 ?_
      refine jw_getP (p := 4) (i := 1) (q := 93) rfl jM149 jq149_1 rfl (jo_92 s3.1) je_11_1 (jp_92_1 s3.1) ?_
      refine jw_bipush (p := 6) rfl jM149 jq149_4 (by decide) ?_
      refine jiL1 (p := 7) rfl jM149 jq149_6 ?_
      refine jw_imul (p := 8) rfl jM149 jq149_7 ?_
      obtain ⟨c5, h5⟩ := jo_i h4
      refine jg_iald (p := 9) rfl jM149 jq149_8 (ja_93 s3.1) c5.1 c5.2 s3 (by decide) rfl ?_
      refine jw_iret jM149 jq149_9 (fun z => absurd z (by decide)) ?_
      show jb_w (d + 3) 208 18 [some (.ref 92), some (jb_v l1), some (jb_v l2), o3] [(jb_v (G 93 (67 * x3)))] σ3 Q
      refine jw_if (p := 21) rfl jM208 jq208_18 (jc_eq (s.r _ _) jb_r0) (fun c6 => ?_) (fun c6 => ?_)
      · have h6 := jo_p c6 h5
        refine jw_iconst (p := 38) rfl jM208 jq208_37 ?_
        refine jiS3 (p := 39) rfl jM208 jq208_38 ?_
        refine jiL3 (p := 40) rfl jM208 jq208_39 ?_
        refine jw_if (p := 43) rfl jM208 jq208_40 (jc_eq (jb_rn rfl) jb_r0) (fun _ => ?_) (fun z => absurd (by decide) z)
        refine jiL1 (p := 57) rfl jM208 jq208_56 ?_
        refine jiS1 (p := 58) rfl jM208 jq208_57 ?_
        refine jiI2 (p := 61) rfl jM208 jq208_58 ?_
        refine jw_goto jM208 jq208_61 ?_
        obtain ⟨c7, h7⟩ := jo_i h6
        exact ih hl1 c7 h7 k σ3 s3
      · have h6 := jo_n c6 h5
        refine jaL0 (p := 22) rfl jM208 jq208_21 ?_
        refine jaL0 (p := 23) rfl jM208 jq208_22 ?_
        refine jiL2 (p := 24) rfl jM208 jq208_23 ?_
        refine jw_callV [(jb_v l2)] jM208 jq208_24 rfl rfl (jo_92 s3.1) rfl jM161 rfl rfl ?_
        obtain ⟨x8, e9, h9⟩ := jo_lb h6
        refine cs161 c2 (fun σ8 s8 r8 => ?_) σ3 s3
        rw [e9] at r8 ⊢
        show jb_w (d + 3) 208 27 [some (.ref 92), some (jb_v l1), some (jb_v l2), o3] [(jb_v x8), (.ref 92)] σ8 Q
        refine jw_callV [(jb_v x8)] jM208 jq208_27 rfl rfl (jo_92 s8.1) rfl jM150 rfl rfl ?_
        show jb_w (d + 2) 150 0 [some (.ref 92), some (jb_v x8)] [] σ8 (jb_k (d + 3) 208 27 [some (.ref 92), some (jb_v l1), some (jb_v l2), o3] [] Q)
        refine jaL0 (p := 1) rfl jM150 jq150_0 ?_
        refine jw_getP (p := 4) (i := 1) (q := 93) rfl jM150 jq150_1 rfl (jo_92 s8.1) je_11_1 (jp_92_1 s8.1) ?_
        refine jw_bipush (p := 6) rfl jM150 jq150_4 (by decide) ?_
        refine jiL1 (p := 7) rfl jM150 jq150_6 ?_
        refine jw_imul (p := 8) rfl jM150 jq150_7 ?_
        refine jw_iconst (p := 9) rfl jM150 jq150_8 ?_
        refine jw_iadd (p := 10) rfl jM150 jq150_9 ?_
        obtain ⟨c10, h10⟩ := jo_i h9
        refine jg_iald (p := 11) rfl jM150 jq150_10 (ja_93 s8.1) c10.1 c10.2 s8 (by decide) rfl ?_
        refine jw_iret jM150 jq150_11 (fun z => absurd z (by decide)) ?_
        show jb_w (d + 3) 208 30 [some (.ref 92), some (jb_v l1), some (jb_v l2), o3] [(jb_v (G 93 ((67 * x8) + 2)))] σ8 Q
        refine jw_if (p := 33) rfl jM208 jq208_30 (jc_ne (s.r _ _) jb_r0) (fun c11 => ?_) (fun c11 => ?_)
        · have h11 := jo_n c11 h10
          refine jw_iconst (p := 38) rfl jM208 jq208_37 ?_
          refine jiS3 (p := 39) rfl jM208 jq208_38 ?_
          refine jiL3 (p := 40) rfl jM208 jq208_39 ?_
          refine jw_if (p := 43) rfl jM208 jq208_40 (jc_eq (jb_rn rfl) jb_r0) (fun _ => ?_) (fun z => absurd (by decide) z)
          refine jiL1 (p := 57) rfl jM208 jq208_56 ?_
          refine jiS1 (p := 58) rfl jM208 jq208_57 ?_
          refine jiI2 (p := 61) rfl jM208 jq208_58 ?_
          refine jw_goto jM208 jq208_61 ?_
          obtain ⟨c12, h12⟩ := jo_i h11
          exact ih hl1 c12 h12 k σ8 s8
        · have h11 := jo_p (Decidable.byContradiction c11) h10
          refine jw_iconst (p := 34) rfl jM208 jq208_33 ?_
          refine jw_goto jM208 jq208_34 ?_
          refine jiS3 (p := 39) rfl jM208 jq208_38 ?_
          refine jiL3 (p := 40) rfl jM208 jq208_39 ?_
          refine jw_if (p := 43) rfl jM208 jq208_40 (jc_eq (jb_rn rfl) jb_r0) (fun z => absurd z (by decide)) (fun _ => ?_)
          refine jaL0 (p := 44) rfl jM208 jq208_43 ?_
          refine jiL2 (p := 45) rfl jM208 jq208_44 ?_
          refine jw_callV [(jb_v l2)] jM208 jq208_45 rfl rfl (jo_92 s8.1) rfl jM207 rfl rfl ?_
          obtain ⟨x13, b14, h14⟩ := jo_b h11
          refine jf207 hl2 b14 (fun σ13 s13 r13 => ?_) σ8 s8
          show jb_w (d + 3) 208 48 [some (.ref 92), some (jb_v l1), some (jb_v l2), some (jb_v 1)] [(jb_v (x13.2))] σ13 Q
          refine jw_iconst (p := 49) rfl jM208 jq208_48 ?_
          refine jw_ic (p := 52) rfl jM208 jq208_49 (jc_eq r13 (jb_rn rfl)) (fun c15 => ?_) (fun c15 => ?_)
          · have h15 := jo_p c15 h14
            refine jiL1 (p := 57) rfl jM208 jq208_56 ?_
            refine jiS1 (p := 58) rfl jM208 jq208_57 ?_
            refine jiI2 (p := 61) rfl jM208 jq208_58 ?_
            refine jw_goto jM208 jq208_61 ?_
            obtain ⟨c16, h16⟩ := jo_i h15
            exact ih hl1 c16 h16 k σ13 s13
          · have h15 := jo_n c15 h14
            refine jiL2 (p := 53) rfl jM208 jq208_52 ?_
            refine jw_goto jM208 jq208_53 ?_
            refine jiS1 (p := 58) rfl jM208 jq208_57 ?_
            refine jiI2 (p := 61) rfl jM208 jq208_58 ?_
            refine jw_goto jM208 jq208_61 ?_
            obtain ⟨c17, h17⟩ := jo_i h15
            exact ih hl2 c17 h17 k σ13 s13
def fo208 (G : jg_G) : Option (jg_G × Int) := fo208_5 jo_N G (-1) 23
theorem jf208 {d : Nat} {σ0 : ib_H} {Q : ib_O → Prop} {G : jg_G} {r : jg_G × Int} (h : fo208 G  = some r) (k : ∀ σ, jg_S σ0 r.1 σ → jb_r r.2 → Q (.inl (some (jb_v r.2)), σ)) : jg_W σ0 G (d + 3) 208 0 [some (.ref 92), none, none, none] [] Q := by
  intro σ s
  unfold fo208 at h
  refine jw_iconst (p := 1) rfl jM208 jq208_0 ?_
  refine jiS1 (p := 2) rfl jM208 jq208_1 ?_
  refine jw_bipush (p := 4) rfl jM208 jq208_2 (by decide) ?_
  refine jiS2 (p := 5) rfl jM208 jq208_4 ?_
  exact jf208_5 jo_N (jb_rn rfl) (jb_rn rfl) h k σ s
-- 209 isRootAlone need 2
def fo209 (G : jg_G) : Option (jg_G × Int) := if 0 ≤ (0 : Int) ∧ (0 : Int) < 24 then jo_l (fr_ro G (0 : Int)) fun x2 => if 0 ≤ (67 * x2) ∧ (67 * x2) < 305118 then if G 93 (67 * x2) = 2 then (jo_l (fr_ro G (0 : Int)) fun x6 => if 0 ≤ ((67 * x6) + 2) ∧ ((67 * x6) + 2) < 305118 then if G 93 ((67 * x6) + 2) = 1 then (some (G, 1)) else (some (G, 0)) else none) else (some (G, 0)) else none else none
theorem jf209 {d : Nat} {σ0 : ib_H} {Q : ib_O → Prop} {G : jg_G} {r : jg_G × Int} (h : fo209 G  = some r) (k : ∀ σ, jg_S σ0 r.1 σ → jb_r r.2 → Q (.inl (some (jb_v r.2)), σ)) : jg_W σ0 G (d + 2) 209 0 [some (.ref 92)] [] Q := by
  intro σ s
  unfold fo209 at h
  refine jaL0 (p := 1) rfl jM209 jq209_0 ?_
  refine jaL0 (p := 2) rfl jM209 jq209_1 ?_
  refine jw_iconst (p := 3) rfl jM209 jq209_2 ?_
  refine jw_callV [(jb_v 0)] jM209 jq209_3 rfl rfl (jo_92 s.1) rfl jM161 rfl rfl ?_
  obtain ⟨c1, h1⟩ := jo_i h
  obtain ⟨x2, e3, h3⟩ := jo_lb h1
  refine cs161 c1 (fun σ2 s2 r2 => ?_) σ s
  rw [e3] at r2 ⊢
  show jb_w (d + 2) 209 6 [some (.ref 92)] [(jb_v x2), (.ref 92)] σ2 Q
  refine jw_callV [(jb_v x2)] jM209 jq209_6 rfl rfl (jo_92 s2.1) rfl jM149 rfl rfl ?_
  show jb_w (d + 1) 149 0 [some (.ref 92), some (jb_v x2)] [] σ2 (jb_k (d + 2) 209 6 [some (.ref 92)] [] Q)
  refine jaL0 (p := 1) rfl jM149 jq149_0 ?_
  refine jw_getP (p := 4) (i := 1) (q := 93) rfl jM149 jq149_1 rfl (jo_92 s2.1) je_11_1 (jp_92_1 s2.1) ?_
  refine jw_bipush (p := 6) rfl jM149 jq149_4 (by decide) ?_
  refine jiL1 (p := 7) rfl jM149 jq149_6 ?_
  refine jw_imul (p := 8) rfl jM149 jq149_7 ?_
  obtain ⟨c4, h4⟩ := jo_i h3
  refine jg_iald (p := 9) rfl jM149 jq149_8 (ja_93 s2.1) c4.1 c4.2 s2 (by decide) rfl ?_
  refine jw_iret jM149 jq149_9 (fun z => absurd z (by decide)) ?_
  show jb_w (d + 2) 209 9 [some (.ref 92)] [(jb_v (G 93 (67 * x2)))] σ2 Q
  refine jw_iconst (p := 10) rfl jM209 jq209_9 ?_
  refine jw_ic (p := 13) rfl jM209 jq209_10 (jc_ne (s.r _ _) (jb_rn rfl)) (fun c5 => ?_) (fun c5 => ?_)
  · have h5 := jo_n c5 h4
    refine jw_iconst (p := 31) rfl jM209 jq209_30 ?_
    cases h5
    exact jw_iret jM209 jq209_31 (fun _ => Or.inl rfl) (k σ2 s2 (jb_rn rfl))
  · have h5 := jo_p (Decidable.byContradiction c5) h4
    refine jaL0 (p := 14) rfl jM209 jq209_13 ?_
    refine jaL0 (p := 15) rfl jM209 jq209_14 ?_
    refine jw_iconst (p := 16) rfl jM209 jq209_15 ?_
    refine jw_callV [(jb_v 0)] jM209 jq209_16 rfl rfl (jo_92 s2.1) rfl jM161 rfl rfl ?_
    obtain ⟨x6, e7, h7⟩ := jo_lb h5
    refine cs161 c1 (fun σ6 s6 r6 => ?_) σ2 s2
    rw [e7] at r6 ⊢
    show jb_w (d + 2) 209 19 [some (.ref 92)] [(jb_v x6), (.ref 92)] σ6 Q
    refine jw_callV [(jb_v x6)] jM209 jq209_19 rfl rfl (jo_92 s6.1) rfl jM150 rfl rfl ?_
    show jb_w (d + 1) 150 0 [some (.ref 92), some (jb_v x6)] [] σ6 (jb_k (d + 2) 209 19 [some (.ref 92)] [] Q)
    refine jaL0 (p := 1) rfl jM150 jq150_0 ?_
    refine jw_getP (p := 4) (i := 1) (q := 93) rfl jM150 jq150_1 rfl (jo_92 s6.1) je_11_1 (jp_92_1 s6.1) ?_
    refine jw_bipush (p := 6) rfl jM150 jq150_4 (by decide) ?_
    refine jiL1 (p := 7) rfl jM150 jq150_6 ?_
    refine jw_imul (p := 8) rfl jM150 jq150_7 ?_
    refine jw_iconst (p := 9) rfl jM150 jq150_8 ?_
    refine jw_iadd (p := 10) rfl jM150 jq150_9 ?_
    obtain ⟨c8, h8⟩ := jo_i h7
    refine jg_iald (p := 11) rfl jM150 jq150_10 (ja_93 s6.1) c8.1 c8.2 s6 (by decide) rfl ?_
    refine jw_iret jM150 jq150_11 (fun z => absurd z (by decide)) ?_
    show jb_w (d + 2) 209 22 [some (.ref 92)] [(jb_v (G 93 ((67 * x6) + 2)))] σ6 Q
    refine jw_iconst (p := 23) rfl jM209 jq209_22 ?_
    refine jw_ic (p := 26) rfl jM209 jq209_23 (jc_ne (s.r _ _) (jb_rn rfl)) (fun c9 => ?_) (fun c9 => ?_)
    · have h9 := jo_n c9 h8
      refine jw_iconst (p := 31) rfl jM209 jq209_30 ?_
      cases h9
      exact jw_iret jM209 jq209_31 (fun _ => Or.inl rfl) (k σ6 s6 (jb_rn rfl))
    · have h9 := jo_p (Decidable.byContradiction c9) h8
      refine jw_iconst (p := 27) rfl jM209 jq209_26 ?_
      refine jw_goto jM209 jq209_27 ?_
      cases h9
      exact jw_iret jM209 jq209_31 (fun _ => Or.inr rfl) (k σ6 s6 (jb_rn rfl))
-- 210 clears need 8
def fo210_5 : Nat → jg_G → Int → Option (jg_G × Int)
  | 0, _, _ => none
  | m + 1, G, l1 => if G 92 7 = 0 then ((fo209 G ).bind fun x2 => if x2.2 = 0 then (if l1 = (-1) then (some (x2.1, 0)) else ((fo209 (x2.1) ).bind fun x25 => if x25.2 = 0 then ((fo207 (x25.1) l1).bind fun x34 => (fo181 (x34.1) l1 (x34.2)).bind fun x36 => if (x36.1) 92 7 = 0 then ((fo182 (x36.1) ).bind fun x39 => if (x39.1) 92 7 = 0 then ((fo208 (x39.1) ).bind fun x42 => fo210_5 m (x42.1) (x42.2)) else (fo210_5 m (x39.1) (-1))) else (fo210_5 m (x36.1) (-1))) else (if (x25.1) 92 7 = 0 then ((fo182 (x25.1) ).bind fun x29 => if (x29.1) 92 7 = 0 then ((fo208 (x29.1) ).bind fun x32 => fo210_5 m (x32.1) (x32.2)) else (fo210_5 m (x29.1) (-1))) else (fo210_5 m (x25.1) (-1))))) else ((fo209 (x2.1) ).bind fun x5 => if x5.2 = 0 then ((fo207 (x5.1) l1).bind fun x14 => (fo181 (x14.1) l1 (x14.2)).bind fun x16 => if (x16.1) 92 7 = 0 then ((fo182 (x16.1) ).bind fun x19 => if (x19.1) 92 7 = 0 then ((fo208 (x19.1) ).bind fun x22 => fo210_5 m (x22.1) (x22.2)) else (fo210_5 m (x19.1) (-1))) else (fo210_5 m (x16.1) (-1))) else (if (x5.1) 92 7 = 0 then ((fo182 (x5.1) ).bind fun x9 => if (x9.1) 92 7 = 0 then ((fo208 (x9.1) ).bind fun x12 => fo210_5 m (x12.1) (x12.2)) else (fo210_5 m (x9.1) (-1))) else (fo210_5 m (x5.1) (-1))))) else (some (G, 0))
theorem jf210_5 {d : Nat} {σ0 : ib_H} {Q : ib_O → Prop} : ∀ (m : Nat) {G : jg_G} {l1 : Int} (hl1 : jb_r l1) {r : jg_G × Int} (h : fo210_5 m G l1 = some r) (k : ∀ σ, jg_S σ0 r.1 σ → Q (.inl none, σ)), jg_W σ0 G (d + 8) 210 5 [some (.ref 92), some (jb_v l1)] [] Q := by
  intro m
  induction m with
  | zero =>
    intro G l1 hl1 r h k
    cases h
  | succ m ih =>
    intro G l1 hl1 r h k σ s
    unfold fo210_5 at h
    refine jaL0 (p := 6) rfl jM210 jq210_5 ?_
    refine jg_getI (p := 9) (i := 7) rfl jM210 jq210_6 rfl (jo_92 s.1) jn_11_7 s (by decide) (by decide) rfl ?_
    refine jw_if (p := 12) rfl jM210 jq210_9 (jc_ne (s.r _ _) jb_r0) (fun c1 => ?_) (fun c1 => ?_)
    · have h1 := jo_n c1 h
      cases h1
      exact jw_vret jM210 jq210_71 (k σ s)
    · have h1 := jo_p (Decidable.byContradiction c1) h
      refine jaL0 (p := 13) rfl jM210 jq210_12 ?_
      refine jw_callV [] jM210 jq210_13 rfl rfl (jo_92 s.1) rfl jM209 rfl rfl ?_
      obtain ⟨x2, b3, h3⟩ := jo_b h1
      refine jf209  b3 (fun σ2 s2 r2 => ?_) σ s
      show jb_w (d + 8) 210 16 [some (.ref 92), some (jb_v l1)] [(jb_v (x2.2))] σ2 Q
      refine jw_if (p := 19) rfl jM210 jq210_16 (jc_ne r2 jb_r0) (fun c4 => ?_) (fun c4 => ?_)
      · have h4 := jo_n c4 h3
        refine jaL0 (p := 25) rfl jM210 jq210_24 ?_
        refine jw_callV [] jM210 jq210_25 rfl rfl (jo_92 s2.1) rfl jM209 rfl rfl ?_
        obtain ⟨x5, b6, h6⟩ := jo_b h4
        refine jf209  b6 (fun σ5 s5 r5 => ?_) σ2 s2
        show jb_w (d + 8) 210 28 [some (.ref 92), some (jb_v l1)] [(jb_v (x5.2))] σ5 Q
        refine jw_if (p := 31) rfl jM210 jq210_28 (jc_ne r5 jb_r0) (fun c7 => ?_) (fun c7 => ?_)
        · have h7 := jo_n c7 h6
          refine jaL0 (p := 42) rfl jM210 jq210_41 ?_
          refine jg_getI (p := 45) (i := 7) rfl jM210 jq210_42 rfl (jo_92 s5.1) jn_11_7 s5 (by decide) (by decide) rfl ?_
          refine jw_if (p := 48) rfl jM210 jq210_45 (jc_ne (s5.r _ _) jb_r0) (fun c8 => ?_) (fun c8 => ?_)
          · have h8 := jo_n c8 h7
            refine jaL0 (p := 53) rfl jM210 jq210_52 ?_
            refine jg_getI (p := 56) (i := 7) rfl jM210 jq210_53 rfl (jo_92 s5.1) jn_11_7 s5 (by decide) (by decide) rfl ?_
            refine jw_if (p := 59) rfl jM210 jq210_56 (jc_eq (s5.r _ _) jb_r0) (fun z => absurd z c8) (fun _ => ?_)
            refine jw_iconst (p := 60) rfl jM210 jq210_59 ?_
            refine jw_goto jM210 jq210_60 ?_
            refine jiS1 (p := 68) rfl jM210 jq210_67 ?_
            refine jw_goto jM210 jq210_68 ?_
            exact ih (jb_rn rfl) h8 k σ5 s5
          · have h8 := jo_p (Decidable.byContradiction c8) h7
            refine jaL0 (p := 49) rfl jM210 jq210_48 ?_
            refine jw_callV [] jM210 jq210_49 rfl rfl (jo_92 s5.1) rfl jM182 rfl rfl ?_
            obtain ⟨x9, b10, h10⟩ := jo_b h8
            refine jf182  b10 (fun σ9 s9 => ?_) σ5 s5
            show jb_w (d + 8) 210 52 [some (.ref 92), some (jb_v l1)] [] σ9 Q
            refine jaL0 (p := 53) rfl jM210 jq210_52 ?_
            refine jg_getI (p := 56) (i := 7) rfl jM210 jq210_53 rfl (jo_92 s9.1) jn_11_7 s9 (by decide) (by decide) rfl ?_
            refine jw_if (p := 59) rfl jM210 jq210_56 (jc_eq (s9.r _ _) jb_r0) (fun c11 => ?_) (fun c11 => ?_)
            · have h11 := jo_p c11 h10
              refine jaL0 (p := 64) rfl jM210 jq210_63 ?_
              refine jw_callV [] jM210 jq210_64 rfl rfl (jo_92 s9.1) rfl jM208 rfl rfl ?_
              obtain ⟨x12, b13, h13⟩ := jo_b h11
              refine jf208  b13 (fun σ12 s12 r12 => ?_) σ9 s9
              show jb_w (d + 8) 210 67 [some (.ref 92), some (jb_v l1)] [(jb_v (x12.2))] σ12 Q
              refine jiS1 (p := 68) rfl jM210 jq210_67 ?_
              refine jw_goto jM210 jq210_68 ?_
              exact ih r12 h13 k σ12 s12
            · have h11 := jo_n c11 h10
              refine jw_iconst (p := 60) rfl jM210 jq210_59 ?_
              refine jw_goto jM210 jq210_60 ?_
              refine jiS1 (p := 68) rfl jM210 jq210_67 ?_
              refine jw_goto jM210 jq210_68 ?_
              exact ih (jb_rn rfl) h11 k σ9 s9
        · have h7 := jo_p (Decidable.byContradiction c7) h6
          refine jaL0 (p := 32) rfl jM210 jq210_31 ?_
          refine jiL1 (p := 33) rfl jM210 jq210_32 ?_
          refine jaL0 (p := 34) rfl jM210 jq210_33 ?_
          refine jiL1 (p := 35) rfl jM210 jq210_34 ?_
          refine jw_callV [(jb_v l1)] jM210 jq210_35 rfl rfl (jo_92 s5.1) rfl jM207 rfl rfl ?_
          obtain ⟨x14, b15, h15⟩ := jo_b h7
          refine jf207 hl1 b15 (fun σ14 s14 r14 => ?_) σ5 s5
          show jb_w (d + 8) 210 38 [some (.ref 92), some (jb_v l1)] [(jb_v (x14.2)), (jb_v l1), (.ref 92)] σ14 Q
          refine jw_callV [(jb_v l1), (jb_v (x14.2))] jM210 jq210_38 rfl rfl (jo_92 s14.1) rfl jM181 rfl rfl ?_
          obtain ⟨x16, b17, h17⟩ := jo_b h15
          refine jf181 hl1 r14 b17 (fun σ16 s16 => ?_) σ14 s14
          show jb_w (d + 8) 210 41 [some (.ref 92), some (jb_v l1)] [] σ16 Q
          refine jaL0 (p := 42) rfl jM210 jq210_41 ?_
          refine jg_getI (p := 45) (i := 7) rfl jM210 jq210_42 rfl (jo_92 s16.1) jn_11_7 s16 (by decide) (by decide) rfl ?_
          refine jw_if (p := 48) rfl jM210 jq210_45 (jc_ne (s16.r _ _) jb_r0) (fun c18 => ?_) (fun c18 => ?_)
          · have h18 := jo_n c18 h17
            refine jaL0 (p := 53) rfl jM210 jq210_52 ?_
            refine jg_getI (p := 56) (i := 7) rfl jM210 jq210_53 rfl (jo_92 s16.1) jn_11_7 s16 (by decide) (by decide) rfl ?_
            refine jw_if (p := 59) rfl jM210 jq210_56 (jc_eq (s16.r _ _) jb_r0) (fun z => absurd z c18) (fun _ => ?_)
            refine jw_iconst (p := 60) rfl jM210 jq210_59 ?_
            refine jw_goto jM210 jq210_60 ?_
            refine jiS1 (p := 68) rfl jM210 jq210_67 ?_
            refine jw_goto jM210 jq210_68 ?_
            exact ih (jb_rn rfl) h18 k σ16 s16
          · have h18 := jo_p (Decidable.byContradiction c18) h17
            refine jaL0 (p := 49) rfl jM210 jq210_48 ?_
            refine jw_callV [] jM210 jq210_49 rfl rfl (jo_92 s16.1) rfl jM182 rfl rfl ?_
            obtain ⟨x19, b20, h20⟩ := jo_b h18
            refine jf182  b20 (fun σ19 s19 => ?_) σ16 s16
            show jb_w (d + 8) 210 52 [some (.ref 92), some (jb_v l1)] [] σ19 Q
            refine jaL0 (p := 53) rfl jM210 jq210_52 ?_
            refine jg_getI (p := 56) (i := 7) rfl jM210 jq210_53 rfl (jo_92 s19.1) jn_11_7 s19 (by decide) (by decide) rfl ?_
            refine jw_if (p := 59) rfl jM210 jq210_56 (jc_eq (s19.r _ _) jb_r0) (fun c21 => ?_) (fun c21 => ?_)
            · have h21 := jo_p c21 h20
              refine jaL0 (p := 64) rfl jM210 jq210_63 ?_
              refine jw_callV [] jM210 jq210_64 rfl rfl (jo_92 s19.1) rfl jM208 rfl rfl ?_
              obtain ⟨x22, b23, h23⟩ := jo_b h21
              refine jf208  b23 (fun σ22 s22 r22 => ?_) σ19 s19
              show jb_w (d + 8) 210 67 [some (.ref 92), some (jb_v l1)] [(jb_v (x22.2))] σ22 Q
              refine jiS1 (p := 68) rfl jM210 jq210_67 ?_
              refine jw_goto jM210 jq210_68 ?_
              exact ih r22 h23 k σ22 s22
            · have h21 := jo_n c21 h20
              refine jw_iconst (p := 60) rfl jM210 jq210_59 ?_
              refine jw_goto jM210 jq210_60 ?_
              refine jiS1 (p := 68) rfl jM210 jq210_67 ?_
              refine jw_goto jM210 jq210_68 ?_
              exact ih (jb_rn rfl) h21 k σ19 s19
      · have h4 := jo_p (Decidable.byContradiction c4) h3
        refine jiL1 (p := 20) rfl jM210 jq210_19 ?_
        refine jw_iconst (p := 21) rfl jM210 jq210_20 ?_
        refine jw_ic (p := 24) rfl jM210 jq210_21 (jc_eq hl1 (jb_rn rfl)) (fun c24 => ?_) (fun c24 => ?_)
        · have h24 := jo_p c24 h4
          cases h24
          exact jw_vret jM210 jq210_71 (k σ2 s2)
        · have h24 := jo_n c24 h4
          refine jaL0 (p := 25) rfl jM210 jq210_24 ?_
          refine jw_callV [] jM210 jq210_25 rfl rfl (jo_92 s2.1) rfl jM209 rfl rfl ?_
          obtain ⟨x25, b26, h26⟩ := jo_b h24
          refine jf209  b26 (fun σ25 s25 r25 => ?_) σ2 s2
          show jb_w (d + 8) 210 28 [some (.ref 92), some (jb_v l1)] [(jb_v (x25.2))] σ25 Q
          refine jw_if (p := 31) rfl jM210 jq210_28 (jc_ne r25 jb_r0) (fun c27 => ?_) (fun c27 => ?_)
          · have h27 := jo_n c27 h26
            refine jaL0 (p := 42) rfl jM210 jq210_41 ?_
            refine jg_getI (p := 45) (i := 7) rfl jM210 jq210_42 rfl (jo_92 s25.1) jn_11_7 s25 (by decide) (by decide) rfl ?_
            refine jw_if (p := 48) rfl jM210 jq210_45 (jc_ne (s25.r _ _) jb_r0) (fun c28 => ?_) (fun c28 => ?_)
            · have h28 := jo_n c28 h27
              refine jaL0 (p := 53) rfl jM210 jq210_52 ?_
              refine jg_getI (p := 56) (i := 7) rfl jM210 jq210_53 rfl (jo_92 s25.1) jn_11_7 s25 (by decide) (by decide) rfl ?_
              refine jw_if (p := 59) rfl jM210 jq210_56 (jc_eq (s25.r _ _) jb_r0) (fun z => absurd z c28) (fun _ => ?_)
              refine jw_iconst (p := 60) rfl jM210 jq210_59 ?_
              refine jw_goto jM210 jq210_60 ?_
              refine jiS1 (p := 68) rfl jM210 jq210_67 ?_
              refine jw_goto jM210 jq210_68 ?_
              exact ih (jb_rn rfl) h28 k σ25 s25
            · have h28 := jo_p (Decidable.byContradiction c28) h27
              refine jaL0 (p := 49) rfl jM210 jq210_48 ?_
              refine jw_callV [] jM210 jq210_49 rfl rfl (jo_92 s25.1) rfl jM182 rfl rfl ?_
              obtain ⟨x29, b30, h30⟩ := jo_b h28
              refine jf182  b30 (fun σ29 s29 => ?_) σ25 s25
              show jb_w (d + 8) 210 52 [some (.ref 92), some (jb_v l1)] [] σ29 Q
              refine jaL0 (p := 53) rfl jM210 jq210_52 ?_
              refine jg_getI (p := 56) (i := 7) rfl jM210 jq210_53 rfl (jo_92 s29.1) jn_11_7 s29 (by decide) (by decide) rfl ?_
              refine jw_if (p := 59) rfl jM210 jq210_56 (jc_eq (s29.r _ _) jb_r0) (fun c31 => ?_) (fun c31 => ?_)
              · have h31 := jo_p c31 h30
                refine jaL0 (p := 64) rfl jM210 jq210_63 ?_
                refine jw_callV [] jM210 jq210_64 rfl rfl (jo_92 s29.1) rfl jM208 rfl rfl ?_
                obtain ⟨x32, b33, h33⟩ := jo_b h31
                refine jf208  b33 (fun σ32 s32 r32 => ?_) σ29 s29
                show jb_w (d + 8) 210 67 [some (.ref 92), some (jb_v l1)] [(jb_v (x32.2))] σ32 Q
                refine jiS1 (p := 68) rfl jM210 jq210_67 ?_
                refine jw_goto jM210 jq210_68 ?_
                exact ih r32 h33 k σ32 s32
              · have h31 := jo_n c31 h30
                refine jw_iconst (p := 60) rfl jM210 jq210_59 ?_
                refine jw_goto jM210 jq210_60 ?_
                refine jiS1 (p := 68) rfl jM210 jq210_67 ?_
                refine jw_goto jM210 jq210_68 ?_
                exact ih (jb_rn rfl) h31 k σ29 s29
          · have h27 := jo_p (Decidable.byContradiction c27) h26
            refine jaL0 (p := 32) rfl jM210 jq210_31 ?_
            refine jiL1 (p := 33) rfl jM210 jq210_32 ?_
            refine jaL0 (p := 34) rfl jM210 jq210_33 ?_
            refine jiL1 (p := 35) rfl jM210 jq210_34 ?_
            refine jw_callV [(jb_v l1)] jM210 jq210_35 rfl rfl (jo_92 s25.1) rfl jM207 rfl rfl ?_
            obtain ⟨x34, b35, h35⟩ := jo_b h27
            refine jf207 hl1 b35 (fun σ34 s34 r34 => ?_) σ25 s25
            show jb_w (d + 8) 210 38 [some (.ref 92), some (jb_v l1)] [(jb_v (x34.2)), (jb_v l1), (.ref 92)] σ34 Q
            refine jw_callV [(jb_v l1), (jb_v (x34.2))] jM210 jq210_38 rfl rfl (jo_92 s34.1) rfl jM181 rfl rfl ?_
            obtain ⟨x36, b37, h37⟩ := jo_b h35
            refine jf181 hl1 r34 b37 (fun σ36 s36 => ?_) σ34 s34
            show jb_w (d + 8) 210 41 [some (.ref 92), some (jb_v l1)] [] σ36 Q
            refine jaL0 (p := 42) rfl jM210 jq210_41 ?_
            refine jg_getI (p := 45) (i := 7) rfl jM210 jq210_42 rfl (jo_92 s36.1) jn_11_7 s36 (by decide) (by decide) rfl ?_
            refine jw_if (p := 48) rfl jM210 jq210_45 (jc_ne (s36.r _ _) jb_r0) (fun c38 => ?_) (fun c38 => ?_)
            · have h38 := jo_n c38 h37
              refine jaL0 (p := 53) rfl jM210 jq210_52 ?_
              refine jg_getI (p := 56) (i := 7) rfl jM210 jq210_53 rfl (jo_92 s36.1) jn_11_7 s36 (by decide) (by decide) rfl ?_
              refine jw_if (p := 59) rfl jM210 jq210_56 (jc_eq (s36.r _ _) jb_r0) (fun z => absurd z c38) (fun _ => ?_)
              refine jw_iconst (p := 60) rfl jM210 jq210_59 ?_
              refine jw_goto jM210 jq210_60 ?_
              refine jiS1 (p := 68) rfl jM210 jq210_67 ?_
              refine jw_goto jM210 jq210_68 ?_
              exact ih (jb_rn rfl) h38 k σ36 s36
            · have h38 := jo_p (Decidable.byContradiction c38) h37
              refine jaL0 (p := 49) rfl jM210 jq210_48 ?_
              refine jw_callV [] jM210 jq210_49 rfl rfl (jo_92 s36.1) rfl jM182 rfl rfl ?_
              obtain ⟨x39, b40, h40⟩ := jo_b h38
              refine jf182  b40 (fun σ39 s39 => ?_) σ36 s36
              show jb_w (d + 8) 210 52 [some (.ref 92), some (jb_v l1)] [] σ39 Q
              refine jaL0 (p := 53) rfl jM210 jq210_52 ?_
              refine jg_getI (p := 56) (i := 7) rfl jM210 jq210_53 rfl (jo_92 s39.1) jn_11_7 s39 (by decide) (by decide) rfl ?_
              refine jw_if (p := 59) rfl jM210 jq210_56 (jc_eq (s39.r _ _) jb_r0) (fun c41 => ?_) (fun c41 => ?_)
              · have h41 := jo_p c41 h40
                refine jaL0 (p := 64) rfl jM210 jq210_63 ?_
                refine jw_callV [] jM210 jq210_64 rfl rfl (jo_92 s39.1) rfl jM208 rfl rfl ?_
                obtain ⟨x42, b43, h43⟩ := jo_b h41
                refine jf208  b43 (fun σ42 s42 r42 => ?_) σ39 s39
                show jb_w (d + 8) 210 67 [some (.ref 92), some (jb_v l1)] [(jb_v (x42.2))] σ42 Q
                refine jiS1 (p := 68) rfl jM210 jq210_67 ?_
                refine jw_goto jM210 jq210_68 ?_
                exact ih r42 h43 k σ42 s42
              · have h41 := jo_n c41 h40
                refine jw_iconst (p := 60) rfl jM210 jq210_59 ?_
                refine jw_goto jM210 jq210_60 ?_
                refine jiS1 (p := 68) rfl jM210 jq210_67 ?_
                refine jw_goto jM210 jq210_68 ?_
                exact ih (jb_rn rfl) h41 k σ39 s39
def fo210 (G : jg_G) : Option (jg_G × Int) := (fo208 G ).bind fun x1 => fo210_5 jo_N (x1.1) (x1.2)
theorem jf210 {d : Nat} {σ0 : ib_H} {Q : ib_O → Prop} {G : jg_G} {r : jg_G × Int} (h : fo210 G  = some r) (k : ∀ σ, jg_S σ0 r.1 σ → Q (.inl none, σ)) : jg_W σ0 G (d + 8) 210 0 [some (.ref 92), none] [] Q := by
  intro σ s
  unfold fo210 at h
  refine jaL0 (p := 1) rfl jM210 jq210_0 ?_
  refine jw_callV [] jM210 jq210_1 rfl rfl (jo_92 s.1) rfl jM208 rfl rfl ?_
  obtain ⟨x1, b2, h2⟩ := jo_b h
  refine jf208  b2 (fun σ1 s1 r1 => ?_) σ s
  show jb_w (d + 8) 210 4 [some (.ref 92), none] [(jb_v (x1.2))] σ1 Q
  refine jiS1 (p := 5) rfl jM210 jq210_4 ?_
  exact jf210_5 jo_N r1 h2 k σ1 s1
-- 211 undoesLosers need 10
def fo211_s : Nat → Nat → jg_G → Int → Int → Option (jg_G × Int)
  | 0, _, _, _, _ => none
  | m + 1, t, G, l1, l2 => if t = 27 then (if l1 = (-1) then (some (G, 0)) else (if G 92 7 = 0 then (fo211_s m 43 G (-1) 0) else (some (G, 0)))) else if t = 43 then (if 4 ≤ l2 then (if l1 = (-1) then (fo211_s m 27 G l1 0) else (if 0 ≤ l1 ∧ l1 < 4 then if 0 ≤ (G 115 l1) ∧ (G 115 l1) < 1501 then if G 98 (G 115 l1) = 1 then (if 0 ≤ (G 104 (G 115 l1)) ∧ (G 104 (G 115 l1)) < 1501 then if G 98 (G 115 l1) = 0 then ((fo186 (jg_u G 115 l1 (G 100 (G 104 (G 115 l1)))) l1 (G 115 l1)).bind fun x41 => if (x41.1) 92 7 = 0 then (if (x41.1) 115 l1 = 0 then (if 0 ≤ (jg_u (x41.1) 113 2 (jb_m (((x41.1) 113 2) + 1))) 92 12 ∧ (jg_u (x41.1) 113 2 (jb_m (((x41.1) 113 2) + 1))) 92 12 < 1500 then if -1 ≤ l1 ∧ l1 < 4 then jo_l ((jg_u (x41.1) 113 2 (jb_m (((x41.1) 113 2) + 1))) 92 12 + 1) fun x48 => if 0 ≤ l1 ∧ l1 < 4 then fo211_s m 27 (fr_cl (fr_no (jg_u (x41.1) 113 2 (jb_m (((x41.1) 113 2) + 1))) (3 : Int) l1) l1) l1 0 else none else none else none) else (fo211_s m 27 (jg_u (x41.1) 113 2 (jb_m (((x41.1) 113 2) + 1))) l1 0)) else (fo211_s m 27 (jg_u (x41.1) 113 2 (jb_m (((x41.1) 113 2) + 0))) l1 0)) else (if G 92 7 = 0 then (if G 100 (G 104 (G 115 l1)) = 0 then (if 0 ≤ (jg_u G 115 l1 (G 100 (G 104 (G 115 l1)))) 92 12 ∧ (jg_u G 115 l1 (G 100 (G 104 (G 115 l1)))) 92 12 < 1500 then if -1 ≤ l1 ∧ l1 < 4 then jo_l ((jg_u G 115 l1 (G 100 (G 104 (G 115 l1)))) 92 12 + 1) fun x37 => if 0 ≤ l1 ∧ l1 < 4 then fo211_s m 27 (fr_cl (fr_no (jg_u G 115 l1 (G 100 (G 104 (G 115 l1)))) (3 : Int) l1) l1) l1 0 else none else none else none) else (fo211_s m 27 (jg_u G 115 l1 (G 100 (G 104 (G 115 l1)))) l1 0)) else (fo211_s m 27 (jg_u G 115 l1 (G 100 (G 104 (G 115 l1)))) l1 0)) else none) else (if G 98 (G 115 l1) = 0 then ((fo186 (jg_u G 115 l1 (G 100 (G 115 l1))) l1 (G 115 l1)).bind fun x18 => if (x18.1) 92 7 = 0 then (if (x18.1) 115 l1 = 0 then (if 0 ≤ (jg_u (x18.1) 113 2 (jb_m (((x18.1) 113 2) + 1))) 92 12 ∧ (jg_u (x18.1) 113 2 (jb_m (((x18.1) 113 2) + 1))) 92 12 < 1500 then if -1 ≤ l1 ∧ l1 < 4 then jo_l ((jg_u (x18.1) 113 2 (jb_m (((x18.1) 113 2) + 1))) 92 12 + 1) fun x25 => if 0 ≤ l1 ∧ l1 < 4 then fo211_s m 27 (fr_cl (fr_no (jg_u (x18.1) 113 2 (jb_m (((x18.1) 113 2) + 1))) (3 : Int) l1) l1) l1 0 else none else none else none) else (fo211_s m 27 (jg_u (x18.1) 113 2 (jb_m (((x18.1) 113 2) + 1))) l1 0)) else (fo211_s m 27 (jg_u (x18.1) 113 2 (jb_m (((x18.1) 113 2) + 0))) l1 0)) else (if G 92 7 = 0 then (if G 100 (G 115 l1) = 0 then (if 0 ≤ (jg_u G 115 l1 (G 100 (G 115 l1))) 92 12 ∧ (jg_u G 115 l1 (G 100 (G 115 l1))) 92 12 < 1500 then if -1 ≤ l1 ∧ l1 < 4 then jo_l ((jg_u G 115 l1 (G 100 (G 115 l1))) 92 12 + 1) fun x14 => if 0 ≤ l1 ∧ l1 < 4 then fo211_s m 27 (fr_cl (fr_no (jg_u G 115 l1 (G 100 (G 115 l1))) (3 : Int) l1) l1) l1 0 else none else none else none) else (fo211_s m 27 (jg_u G 115 l1 (G 100 (G 115 l1))) l1 0)) else (fo211_s m 27 (jg_u G 115 l1 (G 100 (G 115 l1))) l1 0))) else none else none)) else (if 0 ≤ l2 ∧ l2 < 4 then if G 115 l2 ≤ 0 then (if -2147483648 ≤ (l2 + 1) ∧ (l2 + 1) < 2147483648 then fo211_s m 43 G l1 (l2 + 1) else none) else (if l1 = (-1) then (if -2147483648 ≤ (l2 + 1) ∧ (l2 + 1) < 2147483648 then fo211_s m 43 G l2 (l2 + 1) else none) else (if 0 ≤ l1 ∧ l1 < 4 then if G 115 l2 ≤ G 115 l1 then (if -2147483648 ≤ (l2 + 1) ∧ (l2 + 1) < 2147483648 then fo211_s m 43 G l1 (l2 + 1) else none) else (if -2147483648 ≤ (l2 + 1) ∧ (l2 + 1) < 2147483648 then fo211_s m 43 G l2 (l2 + 1) else none) else none)) else none)) else none
theorem jf211_s {d : Nat} {σ0 : ib_H} {Q : ib_O → Prop} : ∀ (m : Nat), (∀ {G : jg_G} {l1 : Int} {o2 : Option Value} (hl1 : jb_r l1) {r : jg_G × Int} (h : fo211_s m 27 G l1 0 = some r) (k : ∀ σ, jg_S σ0 r.1 σ → Q (.inl none, σ)), jg_W σ0 G (d + 10) 211 27 [some (.ref 92), some (jb_v l1), o2] [] Q) ∧ (∀ {G : jg_G} {l1 : Int} {l2 : Int} (hl1 : jb_r l1) (hl2 : jb_r l2) {r : jg_G × Int} (h : fo211_s m 43 G l1 l2 = some r) (k : ∀ σ, jg_S σ0 r.1 σ → Q (.inl none, σ)), jg_W σ0 G (d + 10) 211 43 [some (.ref 92), some (jb_v l1), some (jb_v l2)] [] Q) := by
  intro m
  induction m with
  | zero =>
    refine ⟨?_, ?_⟩
    · intro G l1 o2 hl1 r h k
      cases h
    · intro G l1 l2 hl1 hl2 r h k
      cases h
  | succ m ih =>
    refine ⟨?_, ?_⟩
    · intro G l1 o2 hl1 r h k σ s
      unfold fo211_s at h
      have h := jo_p rfl h
      refine jiL1 (p := 28) rfl jM211 jq211_27 ?_
      refine jw_iconst (p := 29) rfl jM211 jq211_28 ?_
      refine jw_ic (p := 32) rfl jM211 jq211_29 (jc_eq hl1 (jb_rn rfl)) (fun c1 => ?_) (fun c1 => ?_)
      · have h1 := jo_p c1 h
        cases h1
        exact jw_vret jM211 jq211_204 (k σ s)
      · have h1 := jo_n c1 h
        refine jaL0 (p := 33) rfl jM211 jq211_32 ?_
        refine jg_getI (p := 36) (i := 7) rfl jM211 jq211_33 rfl (jo_92 s.1) jn_11_7 s (by decide) (by decide) rfl ?_
        refine jw_if (p := 39) rfl jM211 jq211_36 (jc_ne (s.r _ _) jb_r0) (fun c2 => ?_) (fun c2 => ?_)
        · have h2 := jo_n c2 h1
          cases h2
          exact jw_vret jM211 jq211_204 (k σ s)
        · have h2 := jo_p (Decidable.byContradiction c2) h1
          refine jw_iconst (p := 40) rfl jM211 jq211_39 ?_
          refine jiS1 (p := 41) rfl jM211 jq211_40 ?_
          refine jw_iconst (p := 42) rfl jM211 jq211_41 ?_
          refine jiS2 (p := 43) rfl jM211 jq211_42 ?_
          exact ih.2 (jb_rn rfl) (jb_rn rfl) h2 k σ s
    · intro G l1 l2 hl1 hl2 r h k σ s
      unfold fo211_s at h
      have h := jo_p rfl (jo_n (by decide) h)
      refine jiL2 (p := 44) rfl jM211 jq211_43 ?_
      refine jw_iconst (p := 45) rfl jM211 jq211_44 ?_
      refine jw_ic (p := 48) rfl jM211 jq211_45 (jc_ge hl2 (jb_rn rfl)) (fun c3 => ?_) (fun c3 => ?_)
      · have h3 := jo_p c3 h
        refine jiL1 (p := 90) rfl jM211 jq211_89 ?_
        refine jw_iconst (p := 91) rfl jM211 jq211_90 ?_
        refine jw_ic (p := 94) rfl jM211 jq211_91 (jc_eq hl1 (jb_rn rfl)) (fun c4 => ?_) (fun c4 => ?_)
        · have h4 := jo_p c4 h3
          exact ih.1 hl1 h4 k σ s
        · have h4 := jo_n c4 h3
          refine jaL0 (p := 95) rfl jM211 jq211_94 ?_
          refine jw_getP (p := 98) (i := 32) (q := 115) rfl jM211 jq211_95 rfl (jo_92 s.1) je_11_32 (jp_92_32 s.1) ?_
          refine jiL1 (p := 99) rfl jM211 jq211_98 ?_
          obtain ⟨c5, h5⟩ := jo_i h4
          refine jg_iald (p := 100) rfl jM211 jq211_99 (ja_115 s.1) c5.1 c5.2 s (by decide) rfl ?_
          refine jiS2 (p := 101) rfl jM211 jq211_100 ?_
          refine jaL0 (p := 102) rfl jM211 jq211_101 ?_
          refine jw_getP (p := 105) (i := 32) (q := 115) rfl jM211 jq211_102 rfl (jo_92 s.1) je_11_32 (jp_92_32 s.1) ?_
          refine jiL1 (p := 106) rfl jM211 jq211_105 ?_
          refine jaL0 (p := 107) rfl jM211 jq211_106 ?_
          refine jw_getP (p := 110) (i := 14) (q := 98) rfl jM211 jq211_107 rfl (jo_92 s.1) je_11_14 (jp_92_14 s.1) ?_
          refine jiL2 (p := 111) rfl jM211 jq211_110 ?_
          obtain ⟨c6, h6⟩ := jo_i h5
          refine jg_iald (p := 112) rfl jM211 jq211_111 (ja_98 s.1) c6.1 c6.2 s (by decide) rfl ?_
          refine jw_iconst (p := 113) rfl jM211 jq211_112 ?_
          refine jw_ic (p := 116) rfl jM211 jq211_113 (jc_ne (s.r _ _) (jb_rn rfl)) (fun c7 => ?_) (fun c7 => ?_)
          · have h7 := jo_n c7 h6
            refine jaL0 (p := 131) rfl jM211 jq211_130 ?_
            refine jw_getP (p := 134) (i := 16) (q := 100) rfl jM211 jq211_131 rfl (jo_92 s.1) je_11_16 (jp_92_16 s.1) ?_
            refine jiL2 (p := 135) rfl jM211 jq211_134 ?_
            refine jg_iald (p := 136) rfl jM211 jq211_135 (ja_100 s.1) c6.1 c6.2 s (by decide) rfl ?_
            refine jg_iast (p := 137) rfl jM211 jq211_136 (ja_115 s.1) c5.1 c5.2 s (by decide) (s.r _ _) ?_
            intro σ8 s8
            refine jaL0 (p := 138) rfl jM211 jq211_137 ?_
            refine jw_getP (p := 141) (i := 14) (q := 98) rfl jM211 jq211_138 rfl (jo_92 s8.1) je_11_14 (jp_92_14 s8.1) ?_
            refine jiL2 (p := 142) rfl jM211 jq211_141 ?_
            refine jg_iald (p := 143) rfl jM211 jq211_142 (ja_98 s8.1) c6.1 c6.2 s8 (by decide) (jg_uN (by decide)) ?_
            refine jw_if (p := 146) rfl jM211 jq211_143 (jc_ne (s.r _ _) jb_r0) (fun c9 => ?_) (fun c9 => ?_)
            · have h9 := jo_n c9 h7
              refine jaL0 (p := 174) rfl jM211 jq211_173 ?_
              refine jg_getI (p := 177) (i := 7) rfl jM211 jq211_174 rfl (jo_92 s8.1) jn_11_7 s8 (by decide) (by decide) (jg_uN (by decide)) ?_
              refine jw_if (p := 180) rfl jM211 jq211_177 (jc_ne (s.r _ _) jb_r0) (fun c10 => ?_) (fun c10 => ?_)
              · have h10 := jo_n c10 h9
                refine jw_goto jM211 jq211_201 ?_
                exact ih.1 hl1 h10 k σ8 s8
              · have h10 := jo_p (Decidable.byContradiction c10) h9
                refine jaL0 (p := 181) rfl jM211 jq211_180 ?_
                refine jw_getP (p := 184) (i := 32) (q := 115) rfl jM211 jq211_181 rfl (jo_92 s8.1) je_11_32 (jp_92_32 s8.1) ?_
                refine jiL1 (p := 185) rfl jM211 jq211_184 ?_
                refine jg_iald (p := 186) rfl jM211 jq211_185 (ja_115 s8.1) c5.1 c5.2 s8 (by decide) jg_uH ?_
                refine jw_if (p := 189) rfl jM211 jq211_186 (jc_ne (s.r _ _) jb_r0) (fun c11 => ?_) (fun c11 => ?_)
                · have h11 := jo_n c11 h10
                  refine jw_goto jM211 jq211_201 ?_
                  exact ih.1 hl1 h11 k σ8 s8
                · have h11 := jo_p (Decidable.byContradiction c11) h10
                  refine jaL0 (p := 190) rfl jM211 jq211_189 ?_
                  refine jw_iconst (p := 191) rfl jM211 jq211_190 ?_
                  refine jiL1 (p := 192) rfl jM211 jq211_191 ?_
                  refine jw_callV [(jb_v 3), (jb_v l1)] jM211 jq211_192 rfl rfl (jo_92 s8.1) rfl jM169 rfl rfl ?_
                  obtain ⟨c12, h12⟩ := jo_i h11
                  obtain ⟨c13, h13⟩ := jo_i h12
                  obtain ⟨x14, e15, h15⟩ := jo_lb h13
                  refine cs169 c12 c13 (jb_rn rfl) (fun σ14 s14 r14 => ?_) σ8 s8
                  rw [e15] at r14 ⊢
                  show jb_w (d + 10) 211 195 [some (.ref 92), some (jb_v l1), some (jb_v (G 115 l1))] [(jb_v x14)] σ14 Q
                  refine jw_popI (p := 196) rfl jM211 jq211_195 ?_
                  refine jaL0 (p := 197) rfl jM211 jq211_196 ?_
                  refine jiL1 (p := 198) rfl jM211 jq211_197 ?_
                  refine jw_callV [(jb_v l1)] jM211 jq211_198 rfl rfl (jo_92 s14.1) rfl jM185 rfl rfl ?_
                  obtain ⟨c16, h16⟩ := jo_i h15
                  refine cs185 c16 (fun σ17 s17 => ?_) σ14 s14
                  show jb_w (d + 10) 211 201 [some (.ref 92), some (jb_v l1), some (jb_v (G 115 l1))] [] σ17 Q
                  refine jw_goto jM211 jq211_201 ?_
                  exact ih.1 hl1 h16 k σ17 s17
            · have h9 := jo_p (Decidable.byContradiction c9) h7
              refine jaL0 (p := 147) rfl jM211 jq211_146 ?_
              refine jiL1 (p := 148) rfl jM211 jq211_147 ?_
              refine jiL2 (p := 149) rfl jM211 jq211_148 ?_
              refine jw_callV [(jb_v l1), (jb_v (G 115 l1))] jM211 jq211_149 rfl rfl (jo_92 s8.1) rfl jM186 rfl rfl ?_
              obtain ⟨x18, b19, h19⟩ := jo_b h9
              refine jf186 hl1 (s.r _ _) b19 (fun σ18 s18 => ?_) σ8 s8
              show jb_w (d + 10) 211 152 [some (.ref 92), some (jb_v l1), some (jb_v (G 115 l1))] [] σ18 Q
              refine jaL0 (p := 153) rfl jM211 jq211_152 ?_
              refine jw_getP (p := 156) (i := 30) (q := 113) rfl jM211 jq211_153 rfl (jo_92 s18.1) je_11_30 (jp_92_30 s18.1) ?_
              refine jw_iconst (p := 157) rfl jM211 jq211_156 ?_
              refine jw_dup2 (p := 158) rfl jM211 jq211_157 ?_
              refine jg_iald (p := 159) rfl jM211 jq211_158 (ja_113 s18.1) (by decide) (by decide) s18 (by decide) rfl ?_
              refine jaL0 (p := 160) rfl jM211 jq211_159 ?_
              refine jg_getI (p := 163) (i := 7) rfl jM211 jq211_160 rfl (jo_92 s18.1) jn_11_7 s18 (by decide) (by decide) rfl ?_
              refine jw_if (p := 166) rfl jM211 jq211_163 (jc_eq (s18.r _ _) jb_r0) (fun c20 => ?_) (fun c20 => ?_)
              · have h20 := jo_p c20 h19
                refine jw_iconst (p := 171) rfl jM211 jq211_170 ?_
                refine jw_iadd (p := 172) rfl jM211 jq211_171 ?_
                refine jg_iasM (p := 173) rfl jM211 jq211_172 (ja_113 s18.1) (by decide) (by decide) s18 (by decide) ?_
                intro σ21 s21
                refine jaL0 (p := 174) rfl jM211 jq211_173 ?_
                refine jg_getI (p := 177) (i := 7) rfl jM211 jq211_174 rfl (jo_92 s21.1) jn_11_7 s21 (by decide) (by decide) (jg_uN (by decide)) ?_
                refine jw_if (p := 180) rfl jM211 jq211_177 (jc_ne (s18.r _ _) jb_r0) (fun z => absurd c20 z) (fun _ => ?_)
                refine jaL0 (p := 181) rfl jM211 jq211_180 ?_
                refine jw_getP (p := 184) (i := 32) (q := 115) rfl jM211 jq211_181 rfl (jo_92 s21.1) je_11_32 (jp_92_32 s21.1) ?_
                refine jiL1 (p := 185) rfl jM211 jq211_184 ?_
                refine jg_iald (p := 186) rfl jM211 jq211_185 (ja_115 s21.1) c5.1 c5.2 s21 (by decide) (jg_uN (by decide)) ?_
                refine jw_if (p := 189) rfl jM211 jq211_186 (jc_ne (s18.r _ _) jb_r0) (fun c22 => ?_) (fun c22 => ?_)
                · have h22 := jo_n c22 h20
                  refine jw_goto jM211 jq211_201 ?_
                  exact ih.1 hl1 h22 k σ21 s21
                · have h22 := jo_p (Decidable.byContradiction c22) h20
                  refine jaL0 (p := 190) rfl jM211 jq211_189 ?_
                  refine jw_iconst (p := 191) rfl jM211 jq211_190 ?_
                  refine jiL1 (p := 192) rfl jM211 jq211_191 ?_
                  refine jw_callV [(jb_v 3), (jb_v l1)] jM211 jq211_192 rfl rfl (jo_92 s21.1) rfl jM169 rfl rfl ?_
                  obtain ⟨c23, h23⟩ := jo_i h22
                  obtain ⟨c24, h24⟩ := jo_i h23
                  obtain ⟨x25, e26, h26⟩ := jo_lb h24
                  refine cs169 c23 c24 (jb_rn rfl) (fun σ25 s25 r25 => ?_) σ21 s21
                  rw [e26] at r25 ⊢
                  show jb_w (d + 10) 211 195 [some (.ref 92), some (jb_v l1), some (jb_v (G 115 l1))] [(jb_v x25)] σ25 Q
                  refine jw_popI (p := 196) rfl jM211 jq211_195 ?_
                  refine jaL0 (p := 197) rfl jM211 jq211_196 ?_
                  refine jiL1 (p := 198) rfl jM211 jq211_197 ?_
                  refine jw_callV [(jb_v l1)] jM211 jq211_198 rfl rfl (jo_92 s25.1) rfl jM185 rfl rfl ?_
                  obtain ⟨c27, h27⟩ := jo_i h26
                  refine cs185 c27 (fun σ28 s28 => ?_) σ25 s25
                  show jb_w (d + 10) 211 201 [some (.ref 92), some (jb_v l1), some (jb_v (G 115 l1))] [] σ28 Q
                  refine jw_goto jM211 jq211_201 ?_
                  exact ih.1 hl1 h27 k σ28 s28
              · have h20 := jo_n c20 h19
                refine jw_iconst (p := 167) rfl jM211 jq211_166 ?_
                refine jw_goto jM211 jq211_167 ?_
                refine jw_iadd (p := 172) rfl jM211 jq211_171 ?_
                refine jg_iasM (p := 173) rfl jM211 jq211_172 (ja_113 s18.1) (by decide) (by decide) s18 (by decide) ?_
                intro σ29 s29
                refine jaL0 (p := 174) rfl jM211 jq211_173 ?_
                refine jg_getI (p := 177) (i := 7) rfl jM211 jq211_174 rfl (jo_92 s29.1) jn_11_7 s29 (by decide) (by decide) (jg_uN (by decide)) ?_
                refine jw_if (p := 180) rfl jM211 jq211_177 (jc_ne (s18.r _ _) jb_r0) (fun _ => ?_) (fun z => absurd c20 z)
                refine jw_goto jM211 jq211_201 ?_
                exact ih.1 hl1 h20 k σ29 s29
          · have h7 := jo_p (Decidable.byContradiction c7) h6
            refine jaL0 (p := 117) rfl jM211 jq211_116 ?_
            refine jw_getP (p := 120) (i := 16) (q := 100) rfl jM211 jq211_117 rfl (jo_92 s.1) je_11_16 (jp_92_16 s.1) ?_
            refine jaL0 (p := 121) rfl jM211 jq211_120 ?_
            refine jw_getP (p := 124) (i := 20) (q := 104) rfl jM211 jq211_121 rfl (jo_92 s.1) je_11_20 (jp_92_20 s.1) ?_
            refine jiL2 (p := 125) rfl jM211 jq211_124 ?_
            refine jg_iald (p := 126) rfl jM211 jq211_125 (ja_104 s.1) c6.1 c6.2 s (by decide) rfl ?_
            obtain ⟨c30, h30⟩ := jo_i h7
            refine jg_iald (p := 127) rfl jM211 jq211_126 (ja_100 s.1) c30.1 c30.2 s (by decide) rfl ?_
            refine jw_goto jM211 jq211_127 ?_
            refine jg_iast (p := 137) rfl jM211 jq211_136 (ja_115 s.1) c5.1 c5.2 s (by decide) (s.r _ _) ?_
            intro σ31 s31
            refine jaL0 (p := 138) rfl jM211 jq211_137 ?_
            refine jw_getP (p := 141) (i := 14) (q := 98) rfl jM211 jq211_138 rfl (jo_92 s31.1) je_11_14 (jp_92_14 s31.1) ?_
            refine jiL2 (p := 142) rfl jM211 jq211_141 ?_
            refine jg_iald (p := 143) rfl jM211 jq211_142 (ja_98 s31.1) c6.1 c6.2 s31 (by decide) (jg_uN (by decide)) ?_
            refine jw_if (p := 146) rfl jM211 jq211_143 (jc_ne (s.r _ _) jb_r0) (fun c32 => ?_) (fun c32 => ?_)
            · have h32 := jo_n c32 h30
              refine jaL0 (p := 174) rfl jM211 jq211_173 ?_
              refine jg_getI (p := 177) (i := 7) rfl jM211 jq211_174 rfl (jo_92 s31.1) jn_11_7 s31 (by decide) (by decide) (jg_uN (by decide)) ?_
              refine jw_if (p := 180) rfl jM211 jq211_177 (jc_ne (s.r _ _) jb_r0) (fun c33 => ?_) (fun c33 => ?_)
              · have h33 := jo_n c33 h32
                refine jw_goto jM211 jq211_201 ?_
                exact ih.1 hl1 h33 k σ31 s31
              · have h33 := jo_p (Decidable.byContradiction c33) h32
                refine jaL0 (p := 181) rfl jM211 jq211_180 ?_
                refine jw_getP (p := 184) (i := 32) (q := 115) rfl jM211 jq211_181 rfl (jo_92 s31.1) je_11_32 (jp_92_32 s31.1) ?_
                refine jiL1 (p := 185) rfl jM211 jq211_184 ?_
                refine jg_iald (p := 186) rfl jM211 jq211_185 (ja_115 s31.1) c5.1 c5.2 s31 (by decide) jg_uH ?_
                refine jw_if (p := 189) rfl jM211 jq211_186 (jc_ne (s.r _ _) jb_r0) (fun c34 => ?_) (fun c34 => ?_)
                · have h34 := jo_n c34 h33
                  refine jw_goto jM211 jq211_201 ?_
                  exact ih.1 hl1 h34 k σ31 s31
                · have h34 := jo_p (Decidable.byContradiction c34) h33
                  refine jaL0 (p := 190) rfl jM211 jq211_189 ?_
                  refine jw_iconst (p := 191) rfl jM211 jq211_190 ?_
                  refine jiL1 (p := 192) rfl jM211 jq211_191 ?_
                  refine jw_callV [(jb_v 3), (jb_v l1)] jM211 jq211_192 rfl rfl (jo_92 s31.1) rfl jM169 rfl rfl ?_
                  obtain ⟨c35, h35⟩ := jo_i h34
                  obtain ⟨c36, h36⟩ := jo_i h35
                  obtain ⟨x37, e38, h38⟩ := jo_lb h36
                  refine cs169 c35 c36 (jb_rn rfl) (fun σ37 s37 r37 => ?_) σ31 s31
                  rw [e38] at r37 ⊢
                  show jb_w (d + 10) 211 195 [some (.ref 92), some (jb_v l1), some (jb_v (G 115 l1))] [(jb_v x37)] σ37 Q
                  refine jw_popI (p := 196) rfl jM211 jq211_195 ?_
                  refine jaL0 (p := 197) rfl jM211 jq211_196 ?_
                  refine jiL1 (p := 198) rfl jM211 jq211_197 ?_
                  refine jw_callV [(jb_v l1)] jM211 jq211_198 rfl rfl (jo_92 s37.1) rfl jM185 rfl rfl ?_
                  obtain ⟨c39, h39⟩ := jo_i h38
                  refine cs185 c39 (fun σ40 s40 => ?_) σ37 s37
                  show jb_w (d + 10) 211 201 [some (.ref 92), some (jb_v l1), some (jb_v (G 115 l1))] [] σ40 Q
                  refine jw_goto jM211 jq211_201 ?_
                  exact ih.1 hl1 h39 k σ40 s40
            · have h32 := jo_p (Decidable.byContradiction c32) h30
              refine jaL0 (p := 147) rfl jM211 jq211_146 ?_
              refine jiL1 (p := 148) rfl jM211 jq211_147 ?_
              refine jiL2 (p := 149) rfl jM211 jq211_148 ?_
              refine jw_callV [(jb_v l1), (jb_v (G 115 l1))] jM211 jq211_149 rfl rfl (jo_92 s31.1) rfl jM186 rfl rfl ?_
              obtain ⟨x41, b42, h42⟩ := jo_b h32
              refine jf186 hl1 (s.r _ _) b42 (fun σ41 s41 => ?_) σ31 s31
              show jb_w (d + 10) 211 152 [some (.ref 92), some (jb_v l1), some (jb_v (G 115 l1))] [] σ41 Q
              refine jaL0 (p := 153) rfl jM211 jq211_152 ?_
              refine jw_getP (p := 156) (i := 30) (q := 113) rfl jM211 jq211_153 rfl (jo_92 s41.1) je_11_30 (jp_92_30 s41.1) ?_
              refine jw_iconst (p := 157) rfl jM211 jq211_156 ?_
              refine jw_dup2 (p := 158) rfl jM211 jq211_157 ?_
              refine jg_iald (p := 159) rfl jM211 jq211_158 (ja_113 s41.1) (by decide) (by decide) s41 (by decide) rfl ?_
              refine jaL0 (p := 160) rfl jM211 jq211_159 ?_
              refine jg_getI (p := 163) (i := 7) rfl jM211 jq211_160 rfl (jo_92 s41.1) jn_11_7 s41 (by decide) (by decide) rfl ?_
              refine jw_if (p := 166) rfl jM211 jq211_163 (jc_eq (s41.r _ _) jb_r0) (fun c43 => ?_) (fun c43 => ?_)
              · have h43 := jo_p c43 h42
                refine jw_iconst (p := 171) rfl jM211 jq211_170 ?_
                refine jw_iadd (p := 172) rfl jM211 jq211_171 ?_
                refine jg_iasM (p := 173) rfl jM211 jq211_172 (ja_113 s41.1) (by decide) (by decide) s41 (by decide) ?_
                intro σ44 s44
                refine jaL0 (p := 174) rfl jM211 jq211_173 ?_
                refine jg_getI (p := 177) (i := 7) rfl jM211 jq211_174 rfl (jo_92 s44.1) jn_11_7 s44 (by decide) (by decide) (jg_uN (by decide)) ?_
                refine jw_if (p := 180) rfl jM211 jq211_177 (jc_ne (s41.r _ _) jb_r0) (fun z => absurd c43 z) (fun _ => ?_)
                refine jaL0 (p := 181) rfl jM211 jq211_180 ?_
                refine jw_getP (p := 184) (i := 32) (q := 115) rfl jM211 jq211_181 rfl (jo_92 s44.1) je_11_32 (jp_92_32 s44.1) ?_
                refine jiL1 (p := 185) rfl jM211 jq211_184 ?_
                refine jg_iald (p := 186) rfl jM211 jq211_185 (ja_115 s44.1) c5.1 c5.2 s44 (by decide) (jg_uN (by decide)) ?_
                refine jw_if (p := 189) rfl jM211 jq211_186 (jc_ne (s41.r _ _) jb_r0) (fun c45 => ?_) (fun c45 => ?_)
                · have h45 := jo_n c45 h43
                  refine jw_goto jM211 jq211_201 ?_
                  exact ih.1 hl1 h45 k σ44 s44
                · have h45 := jo_p (Decidable.byContradiction c45) h43
                  refine jaL0 (p := 190) rfl jM211 jq211_189 ?_
                  refine jw_iconst (p := 191) rfl jM211 jq211_190 ?_
                  refine jiL1 (p := 192) rfl jM211 jq211_191 ?_
                  refine jw_callV [(jb_v 3), (jb_v l1)] jM211 jq211_192 rfl rfl (jo_92 s44.1) rfl jM169 rfl rfl ?_
                  obtain ⟨c46, h46⟩ := jo_i h45
                  obtain ⟨c47, h47⟩ := jo_i h46
                  obtain ⟨x48, e49, h49⟩ := jo_lb h47
                  refine cs169 c46 c47 (jb_rn rfl) (fun σ48 s48 r48 => ?_) σ44 s44
                  rw [e49] at r48 ⊢
                  show jb_w (d + 10) 211 195 [some (.ref 92), some (jb_v l1), some (jb_v (G 115 l1))] [(jb_v x48)] σ48 Q
                  refine jw_popI (p := 196) rfl jM211 jq211_195 ?_
                  refine jaL0 (p := 197) rfl jM211 jq211_196 ?_
                  refine jiL1 (p := 198) rfl jM211 jq211_197 ?_
                  refine jw_callV [(jb_v l1)] jM211 jq211_198 rfl rfl (jo_92 s48.1) rfl jM185 rfl rfl ?_
                  obtain ⟨c50, h50⟩ := jo_i h49
                  refine cs185 c50 (fun σ51 s51 => ?_) σ48 s48
                  show jb_w (d + 10) 211 201 [some (.ref 92), some (jb_v l1), some (jb_v (G 115 l1))] [] σ51 Q
                  refine jw_goto jM211 jq211_201 ?_
                  exact ih.1 hl1 h50 k σ51 s51
              · have h43 := jo_n c43 h42
                refine jw_iconst (p := 167) rfl jM211 jq211_166 ?_
                refine jw_goto jM211 jq211_167 ?_
                refine jw_iadd (p := 172) rfl jM211 jq211_171 ?_
                refine jg_iasM (p := 173) rfl jM211 jq211_172 (ja_113 s41.1) (by decide) (by decide) s41 (by decide) ?_
                intro σ52 s52
                refine jaL0 (p := 174) rfl jM211 jq211_173 ?_
                refine jg_getI (p := 177) (i := 7) rfl jM211 jq211_174 rfl (jo_92 s52.1) jn_11_7 s52 (by decide) (by decide) (jg_uN (by decide)) ?_
                refine jw_if (p := 180) rfl jM211 jq211_177 (jc_ne (s41.r _ _) jb_r0) (fun _ => ?_) (fun z => absurd c43 z)
                refine jw_goto jM211 jq211_201 ?_
                exact ih.1 hl1 h43 k σ52 s52
      · have h3 := jo_n c3 h
        refine jaL0 (p := 49) rfl jM211 jq211_48 ?_
        refine jw_getP (p := 52) (i := 32) (q := 115) rfl jM211 jq211_49 rfl (jo_92 s.1) je_11_32 (jp_92_32 s.1) ?_
        refine jiL2 (p := 53) rfl jM211 jq211_52 ?_
        obtain ⟨c53, h53⟩ := jo_i h3
        refine jg_iald (p := 54) rfl jM211 jq211_53 (ja_115 s.1) c53.1 c53.2 s (by decide) rfl ?_
        refine jw_if (p := 57) rfl jM211 jq211_54 (jc_le (s.r _ _) jb_r0) (fun c54 => ?_) (fun c54 => ?_)
        · have h54 := jo_p c54 h53
          refine jiL1 (p := 82) rfl jM211 jq211_81 ?_
          refine jiS1 (p := 83) rfl jM211 jq211_82 ?_
          refine jiI2 (p := 86) rfl jM211 jq211_83 ?_
          refine jw_goto jM211 jq211_86 ?_
          obtain ⟨c55, h55⟩ := jo_i h54
          exact ih.2 hl1 c55 h55 k σ s
        · have h54 := jo_n c54 h53
          refine jiL1 (p := 58) rfl jM211 jq211_57 ?_
          refine jw_iconst (p := 59) rfl jM211 jq211_58 ?_
          refine jw_ic (p := 62) rfl jM211 jq211_59 (jc_eq hl1 (jb_rn rfl)) (fun c56 => ?_) (fun c56 => ?_)
          · have h56 := jo_p c56 h54
            refine jiL2 (p := 78) rfl jM211 jq211_77 ?_
            refine jw_goto jM211 jq211_78 ?_
            refine jiS1 (p := 83) rfl jM211 jq211_82 ?_
            refine jiI2 (p := 86) rfl jM211 jq211_83 ?_
            refine jw_goto jM211 jq211_86 ?_
            obtain ⟨c57, h57⟩ := jo_i h56
            exact ih.2 hl2 c57 h57 k σ s
          · have h56 := jo_n c56 h54
            refine jaL0 (p := 63) rfl jM211 jq211_62 ?_
            refine jw_getP (p := 66) (i := 32) (q := 115) rfl jM211 jq211_63 rfl (jo_92 s.1) je_11_32 (jp_92_32 s.1) ?_
            refine jiL2 (p := 67) rfl jM211 jq211_66 ?_
            refine jg_iald (p := 68) rfl jM211 jq211_67 (ja_115 s.1) c53.1 c53.2 s (by decide) rfl ?_
            refine jaL0 (p := 69) rfl jM211 jq211_68 ?_
            refine jw_getP (p := 72) (i := 32) (q := 115) rfl jM211 jq211_69 rfl (jo_92 s.1) je_11_32 (jp_92_32 s.1) ?_
            refine jiL1 (p := 73) rfl jM211 jq211_72 ?_
            obtain ⟨c58, h58⟩ := jo_i h56
            refine jg_iald (p := 74) rfl jM211 jq211_73 (ja_115 s.1) c58.1 c58.2 s (by decide) rfl ?_
            refine jw_ic (p := 77) rfl jM211 jq211_74 (jc_le (s.r _ _) (s.r _ _)) (fun c59 => ?_) (fun c59 => ?_)
            · have h59 := jo_p c59 h58
              refine jiL1 (p := 82) rfl jM211 jq211_81 ?_
              refine jiS1 (p := 83) rfl jM211 jq211_82 ?_
              refine jiI2 (p := 86) rfl jM211 jq211_83 ?_
              refine jw_goto jM211 jq211_86 ?_
              obtain ⟨c60, h60⟩ := jo_i h59
              exact ih.2 hl1 c60 h60 k σ s
            · have h59 := jo_n c59 h58
              refine jiL2 (p := 78) rfl jM211 jq211_77 ?_
              refine jw_goto jM211 jq211_78 ?_
              refine jiS1 (p := 83) rfl jM211 jq211_82 ?_
              refine jiI2 (p := 86) rfl jM211 jq211_83 ?_
              refine jw_goto jM211 jq211_86 ?_
              obtain ⟨c61, h61⟩ := jo_i h59
              exact ih.2 hl2 c61 h61 k σ s

def fo211_2 : Nat → jg_G → Int → Option (jg_G × Int)
  | 0, _, _ => none
  | m + 1, G, l1 => if 4 ≤ l1 then (fo211_s jo_N 27 G 0 0) else (if 0 ≤ l1 ∧ l1 < 4 then if -2147483648 ≤ (l1 + 1) ∧ (l1 + 1) < 2147483648 then fo211_2 m (jg_u G 115 l1 (G 108 l1)) (l1 + 1) else none else none)
theorem jf211_2 {d : Nat} {σ0 : ib_H} {Q : ib_O → Prop} : ∀ (m : Nat) {G : jg_G} {l1 : Int} (hl1 : jb_r l1) {r : jg_G × Int} (h : fo211_2 m G l1 = some r) (k : ∀ σ, jg_S σ0 r.1 σ → Q (.inl none, σ)), jg_W σ0 G (d + 10) 211 2 [some (.ref 92), some (jb_v l1), none] [] Q := by
  intro m
  induction m with
  | zero =>
    intro G l1 hl1 r h k
    cases h
  | succ m ih =>
    intro G l1 hl1 r h k σ s
    unfold fo211_2 at h
    refine jiL1 (p := 3) rfl jM211 jq211_2 ?_
    refine jw_iconst (p := 4) rfl jM211 jq211_3 ?_
    refine jw_ic (p := 7) rfl jM211 jq211_4 (jc_ge hl1 (jb_rn rfl)) (fun c1 => ?_) (fun c1 => ?_)
    · have h1 := jo_p c1 h
      refine jw_iconst (p := 26) rfl jM211 jq211_25 ?_
      refine jiS1 (p := 27) rfl jM211 jq211_26 ?_
      exact (jf211_s jo_N).1 (jb_rn rfl) h1 k σ s
    · have h1 := jo_n c1 h
      refine jaL0 (p := 8) rfl jM211 jq211_7 ?_
      refine jw_getP (p := 11) (i := 32) (q := 115) rfl jM211 jq211_8 rfl (jo_92 s.1) je_11_32 (jp_92_32 s.1) ?_
      refine jiL1 (p := 12) rfl jM211 jq211_11 ?_
      refine jaL0 (p := 13) rfl jM211 jq211_12 ?_
      refine jw_getP (p := 16) (i := 24) (q := 108) rfl jM211 jq211_13 rfl (jo_92 s.1) je_11_24 (jp_92_24 s.1) ?_
      refine jiL1 (p := 17) rfl jM211 jq211_16 ?_
      obtain ⟨c2, h2⟩ := jo_i h1
      refine jg_iald (p := 18) rfl jM211 jq211_17 (ja_108 s.1) c2.1 c2.2 s (by decide) rfl ?_
      refine jg_iast (p := 19) rfl jM211 jq211_18 (ja_115 s.1) c2.1 c2.2 s (by decide) (s.r _ _) ?_
      intro σ3 s3
      refine jiI1 (p := 22) rfl jM211 jq211_19 ?_
      refine jw_goto jM211 jq211_22 ?_
      obtain ⟨c4, h4⟩ := jo_i h2
      exact ih c4 h4 k σ3 s3
def fo211 (G : jg_G) : Option (jg_G × Int) := fo211_2 jo_N G 0
theorem jf211 {d : Nat} {σ0 : ib_H} {Q : ib_O → Prop} {G : jg_G} {r : jg_G × Int} (h : fo211 G  = some r) (k : ∀ σ, jg_S σ0 r.1 σ → Q (.inl none, σ)) : jg_W σ0 G (d + 10) 211 0 [some (.ref 92), none, none] [] Q := by
  intro σ s
  unfold fo211 at h
  refine jw_iconst (p := 1) rfl jM211 jq211_0 ?_
  refine jiS1 (p := 2) rfl jM211 jq211_1 ?_
  exact jf211_2 jo_N (jb_rn rfl) h k σ s
-- 212 recover need 11
def fo212_32 : Nat → jg_G → Int → Option (jg_G × Int)
  | 0, _, _ => none
  | m + 1, G, l1 => if 4 ≤ l1 then ((fo204 G ).bind fun x2 => if (x2.1) 92 7 = 0 then ((fo205 (x2.1) ).bind fun x5 => (fo206 (x5.1) ).bind fun x7 => if (x7.1) 92 7 = 0 then ((fo210 (x7.1) ).bind fun x10 => if (x10.1) 92 7 = 0 then ((fo211 (x10.1) ).bind fun x13 => if (x13.1) 92 7 = 0 then (some (x13.1, 0)) else (some (x13.1, (-4)))) else (some (x10.1, (-4)))) else (some (x7.1, (-4)))) else (some (x2.1, (-4)))) else (if 0 ≤ l1 ∧ l1 < 4 then if -2147483648 ≤ (l1 + 1) ∧ (l1 + 1) < 2147483648 then fo212_32 m (jg_u G 113 l1 0) (l1 + 1) else none else none)
theorem jf212_32 {d : Nat} {σ0 : ib_H} {Q : ib_O → Prop} : ∀ (m : Nat) {G : jg_G} {l1 : Int} (hl1 : jb_r l1) {r : jg_G × Int} (h : fo212_32 m G l1 = some r) (k : ∀ σ, jg_S σ0 r.1 σ → jb_r r.2 → Q (.inl (some (jb_v r.2)), σ)), jg_W σ0 G (d + 11) 212 32 [some (.ref 92), some (jb_v l1)] [] Q := by
  intro m
  induction m with
  | zero =>
    intro G l1 hl1 r h k
    cases h
  | succ m ih =>
    intro G l1 hl1 r h k σ s
    unfold fo212_32 at h
    refine jiL1 (p := 33) rfl jM212 jq212_32 ?_
    refine jw_iconst (p := 34) rfl jM212 jq212_33 ?_
    refine jw_ic (p := 37) rfl jM212 jq212_34 (jc_ge hl1 (jb_rn rfl)) (fun c1 => ?_) (fun c1 => ?_)
    · have h1 := jo_p c1 h
      refine jaL0 (p := 51) rfl jM212 jq212_50 ?_
      refine jw_callV [] jM212 jq212_51 rfl rfl (jo_92 s.1) rfl jM204 rfl rfl ?_
      obtain ⟨x2, b3, h3⟩ := jo_b h1
      refine jf204  b3 (fun σ2 s2 => ?_) σ s
      show jb_w (d + 11) 212 54 [some (.ref 92), some (jb_v l1)] [] σ2 Q
      refine jaL0 (p := 55) rfl jM212 jq212_54 ?_
      refine jg_getI (p := 58) (i := 7) rfl jM212 jq212_55 rfl (jo_92 s2.1) jn_11_7 s2 (by decide) (by decide) rfl ?_
      refine jw_if (p := 61) rfl jM212 jq212_58 (jc_ne (s2.r _ _) jb_r0) (fun c4 => ?_) (fun c4 => ?_)
      · have h4 := jo_n c4 h3
        refine jaL0 (p := 70) rfl jM212 jq212_69 ?_
        refine jg_getI (p := 73) (i := 7) rfl jM212 jq212_70 rfl (jo_92 s2.1) jn_11_7 s2 (by decide) (by decide) rfl ?_
        refine jw_if (p := 76) rfl jM212 jq212_73 (jc_ne (s2.r _ _) jb_r0) (fun _ => ?_) (fun z => absurd c4 z)
        refine jaL0 (p := 81) rfl jM212 jq212_80 ?_
        refine jg_getI (p := 84) (i := 7) rfl jM212 jq212_81 rfl (jo_92 s2.1) jn_11_7 s2 (by decide) (by decide) rfl ?_
        refine jw_if (p := 87) rfl jM212 jq212_84 (jc_ne (s2.r _ _) jb_r0) (fun _ => ?_) (fun z => absurd c4 z)
        refine jaL0 (p := 92) rfl jM212 jq212_91 ?_
        refine jg_getI (p := 95) (i := 7) rfl jM212 jq212_92 rfl (jo_92 s2.1) jn_11_7 s2 (by decide) (by decide) rfl ?_
        refine jw_if (p := 98) rfl jM212 jq212_95 (jc_eq (s2.r _ _) jb_r0) (fun z => absurd z c4) (fun _ => ?_)
        refine jw_bipush (p := 100) rfl jM212 jq212_98 (by decide) ?_
        refine jw_goto jM212 jq212_100 ?_
        cases h4
        exact jw_iret jM212 jq212_104 (fun z => absurd z (by decide)) (k σ2 s2 (jb_rn rfl))
      · have h4 := jo_p (Decidable.byContradiction c4) h3
        refine jaL0 (p := 62) rfl jM212 jq212_61 ?_
        refine jw_callV [] jM212 jq212_62 rfl rfl (jo_92 s2.1) rfl jM205 rfl rfl ?_
        obtain ⟨x5, b6, h6⟩ := jo_b h4
        refine jf205  b6 (fun σ5 s5 => ?_) σ2 s2
        show jb_w (d + 11) 212 65 [some (.ref 92), some (jb_v l1)] [] σ5 Q
        refine jaL0 (p := 66) rfl jM212 jq212_65 ?_
        refine jw_callV [] jM212 jq212_66 rfl rfl (jo_92 s5.1) rfl jM206 rfl rfl ?_
        obtain ⟨x7, b8, h8⟩ := jo_b h6
        refine jf206  b8 (fun σ7 s7 => ?_) σ5 s5
        show jb_w (d + 11) 212 69 [some (.ref 92), some (jb_v l1)] [] σ7 Q
        refine jaL0 (p := 70) rfl jM212 jq212_69 ?_
        refine jg_getI (p := 73) (i := 7) rfl jM212 jq212_70 rfl (jo_92 s7.1) jn_11_7 s7 (by decide) (by decide) rfl ?_
        refine jw_if (p := 76) rfl jM212 jq212_73 (jc_ne (s7.r _ _) jb_r0) (fun c9 => ?_) (fun c9 => ?_)
        · have h9 := jo_n c9 h8
          refine jaL0 (p := 81) rfl jM212 jq212_80 ?_
          refine jg_getI (p := 84) (i := 7) rfl jM212 jq212_81 rfl (jo_92 s7.1) jn_11_7 s7 (by decide) (by decide) rfl ?_
          refine jw_if (p := 87) rfl jM212 jq212_84 (jc_ne (s7.r _ _) jb_r0) (fun _ => ?_) (fun z => absurd c9 z)
          refine jaL0 (p := 92) rfl jM212 jq212_91 ?_
          refine jg_getI (p := 95) (i := 7) rfl jM212 jq212_92 rfl (jo_92 s7.1) jn_11_7 s7 (by decide) (by decide) rfl ?_
          refine jw_if (p := 98) rfl jM212 jq212_95 (jc_eq (s7.r _ _) jb_r0) (fun z => absurd z c9) (fun _ => ?_)
          refine jw_bipush (p := 100) rfl jM212 jq212_98 (by decide) ?_
          refine jw_goto jM212 jq212_100 ?_
          cases h9
          exact jw_iret jM212 jq212_104 (fun z => absurd z (by decide)) (k σ7 s7 (jb_rn rfl))
        · have h9 := jo_p (Decidable.byContradiction c9) h8
          refine jaL0 (p := 77) rfl jM212 jq212_76 ?_
          refine jw_callV [] jM212 jq212_77 rfl rfl (jo_92 s7.1) rfl jM210 rfl rfl ?_
          obtain ⟨x10, b11, h11⟩ := jo_b h9
          refine jf210  b11 (fun σ10 s10 => ?_) σ7 s7
          show jb_w (d + 11) 212 80 [some (.ref 92), some (jb_v l1)] [] σ10 Q
          refine jaL0 (p := 81) rfl jM212 jq212_80 ?_
          refine jg_getI (p := 84) (i := 7) rfl jM212 jq212_81 rfl (jo_92 s10.1) jn_11_7 s10 (by decide) (by decide) rfl ?_
          refine jw_if (p := 87) rfl jM212 jq212_84 (jc_ne (s10.r _ _) jb_r0) (fun c12 => ?_) (fun c12 => ?_)
          · have h12 := jo_n c12 h11
            refine jaL0 (p := 92) rfl jM212 jq212_91 ?_
            refine jg_getI (p := 95) (i := 7) rfl jM212 jq212_92 rfl (jo_92 s10.1) jn_11_7 s10 (by decide) (by decide) rfl ?_
            refine jw_if (p := 98) rfl jM212 jq212_95 (jc_eq (s10.r _ _) jb_r0) (fun z => absurd z c12) (fun _ => ?_)
            refine jw_bipush (p := 100) rfl jM212 jq212_98 (by decide) ?_
            refine jw_goto jM212 jq212_100 ?_
            cases h12
            exact jw_iret jM212 jq212_104 (fun z => absurd z (by decide)) (k σ10 s10 (jb_rn rfl))
          · have h12 := jo_p (Decidable.byContradiction c12) h11
            refine jaL0 (p := 88) rfl jM212 jq212_87 ?_
            refine jw_callV [] jM212 jq212_88 rfl rfl (jo_92 s10.1) rfl jM211 rfl rfl ?_
            obtain ⟨x13, b14, h14⟩ := jo_b h12
            refine jf211  b14 (fun σ13 s13 => ?_) σ10 s10
            show jb_w (d + 11) 212 91 [some (.ref 92), some (jb_v l1)] [] σ13 Q
            refine jaL0 (p := 92) rfl jM212 jq212_91 ?_
            refine jg_getI (p := 95) (i := 7) rfl jM212 jq212_92 rfl (jo_92 s13.1) jn_11_7 s13 (by decide) (by decide) rfl ?_
            refine jw_if (p := 98) rfl jM212 jq212_95 (jc_eq (s13.r _ _) jb_r0) (fun c15 => ?_) (fun c15 => ?_)
            · have h15 := jo_p c15 h14
              refine jw_iconst (p := 104) rfl jM212 jq212_103 ?_
              cases h15
              exact jw_iret jM212 jq212_104 (fun z => absurd z (by decide)) (k σ13 s13 (jb_rn rfl))
            · have h15 := jo_n c15 h14
              refine jw_bipush (p := 100) rfl jM212 jq212_98 (by decide) ?_
              refine jw_goto jM212 jq212_100 ?_
              cases h15
              exact jw_iret jM212 jq212_104 (fun z => absurd z (by decide)) (k σ13 s13 (jb_rn rfl))
    · have h1 := jo_n c1 h
      refine jaL0 (p := 38) rfl jM212 jq212_37 ?_
      refine jw_getP (p := 41) (i := 30) (q := 113) rfl jM212 jq212_38 rfl (jo_92 s.1) je_11_30 (jp_92_30 s.1) ?_
      refine jiL1 (p := 42) rfl jM212 jq212_41 ?_
      refine jw_iconst (p := 43) rfl jM212 jq212_42 ?_
      obtain ⟨c16, h16⟩ := jo_i h1
      refine jg_iast (p := 44) rfl jM212 jq212_43 (ja_113 s.1) c16.1 c16.2 s (by decide) (jb_rn rfl) ?_
      intro σ17 s17
      refine jiI1 (p := 47) rfl jM212 jq212_44 ?_
      refine jw_goto jM212 jq212_47 ?_
      obtain ⟨c18, h18⟩ := jo_i h16
      exact ih c18 h18 k σ17 s17
def fo212 (G : jg_G) : Option (jg_G × Int) := if G 92 7 = 0 then (some (jg_u G 92 0 1, 0)) else (fo212_32 jo_N (jg_u (jg_u G 92 0 0) 92 7 0) 0)
theorem jf212 {d : Nat} {σ0 : ib_H} {Q : ib_O → Prop} {G : jg_G} {r : jg_G × Int} (h : fo212 G  = some r) (k : ∀ σ, jg_S σ0 r.1 σ → jb_r r.2 → Q (.inl (some (jb_v r.2)), σ)) : jg_W σ0 G (d + 11) 212 0 [some (.ref 92), none] [] Q := by
  intro σ s
  unfold fo212 at h
  refine jaL0 (p := 1) rfl jM212 jq212_0 ?_
  refine jaL0 (p := 2) rfl jM212 jq212_1 ?_
  refine jg_getI (p := 5) (i := 7) rfl jM212 jq212_2 rfl (jo_92 s.1) jn_11_7 s (by decide) (by decide) rfl ?_
  refine jw_if (p := 8) rfl jM212 jq212_5 (jc_eq (s.r _ _) jb_r0) (fun c1 => ?_) (fun c1 => ?_)
  · have h1 := jo_p c1 h
    refine jw_iconst (p := 13) rfl jM212 jq212_12 ?_
    refine jg_putI (p := 16) (i := 0) rfl jM212 jq212_13 rfl (jo_92 s.1) (Or.inl jz_11_0) s (by decide) (by decide) (jb_rn rfl) ?_
    intro σ2 s2
    refine jaL0 (p := 17) rfl jM212 jq212_16 ?_
    refine jg_getI (p := 20) (i := 0) rfl jM212 jq212_17 rfl (jo_92 s2.1) jn_11_0 s2 (by decide) (by decide) jg_uH ?_
    refine jw_if (p := 23) rfl jM212 jq212_20 (jc_le (jb_rn rfl) jb_r0) (fun z => absurd z (by decide)) (fun _ => ?_)
    refine jw_iconst (p := 24) rfl jM212 jq212_23 ?_
    cases h1
    exact jw_iret jM212 jq212_24 (fun z => absurd z (by decide)) (k σ2 s2 (jb_rn rfl))
  · have h1 := jo_n c1 h
    refine jw_iconst (p := 9) rfl jM212 jq212_8 ?_
    refine jw_goto jM212 jq212_9 ?_
    refine jg_putI (p := 16) (i := 0) rfl jM212 jq212_13 rfl (jo_92 s.1) (Or.inl jz_11_0) s (by decide) (by decide) (jb_rn rfl) ?_
    intro σ3 s3
    refine jaL0 (p := 17) rfl jM212 jq212_16 ?_
    refine jg_getI (p := 20) (i := 0) rfl jM212 jq212_17 rfl (jo_92 s3.1) jn_11_0 s3 (by decide) (by decide) jg_uH ?_
    refine jw_if (p := 23) rfl jM212 jq212_20 (jc_le (jb_rn rfl) jb_r0) (fun _ => ?_) (fun z => absurd (by decide) z)
    refine jaL0 (p := 26) rfl jM212 jq212_25 ?_
    refine jw_iconst (p := 27) rfl jM212 jq212_26 ?_
    refine jg_putI (p := 30) (i := 7) rfl jM212 jq212_27 rfl (jo_92 s3.1) (Or.inr ⟨jy_11_7, Or.inl rfl⟩) s3 (by decide) (by decide) (jb_rn rfl) ?_
    intro σ4 s4
    refine jw_iconst (p := 31) rfl jM212 jq212_30 ?_
    refine jiS1 (p := 32) rfl jM212 jq212_31 ?_
    exact jf212_32 jo_N (jb_rn rfl) h1 k σ4 s4
