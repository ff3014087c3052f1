/-! the reference as functions: written by wip/tools/genf.py (gr5.py) -/
-- 213 pass need 1
def fo213 (G : jg_G) (l1 : Int) : Option (jg_G × Int) := if l1 < 0 then (some (jg_u G 92 0 1, 0)) else (if 3 < l1 then (some (jg_u G 92 0 1, 0)) else (if 0 ≤ l1 ∧ l1 < 4 then some (jg_u G 92 0 0, G 113 l1) else none))
theorem jf213 {d : Nat} {σ0 : ib_H} {Q : ib_O → Prop} {G : jg_G} {l1 : Int} (hl1 : jb_r l1) {r : jg_G × Int} (h : fo213 G l1 = some r) (k : ∀ σ, jg_S σ0 r.1 σ → jb_r r.2 → Q (.inl (some (jb_v r.2)), σ)) : jg_W σ0 G (d + 1) 213 0 [some (.ref 92), some (jb_v l1)] [] Q := by
  intro σ s
  unfold fo213 at h
  refine jaL0 (p := 1) rfl jM213 jq213_0 ?_
  refine jiL1 (p := 2) rfl jM213 jq213_1 ?_
  refine jw_iconst (p := 3) rfl jM213 jq213_2 ?_
  refine jw_iconst (p := 4) rfl jM213 jq213_3 ?_
  refine jw_callS [(jb_v l1), (jb_v 0), (jb_v 3)] jM213 jq213_4 rfl rfl rfl jM147 rfl rfl ?_
  show jb_w d 147 0 [some (jb_v l1), some (jb_v 0), some (jb_v 3)] [] σ (jb_k (d + 1) 213 4 [some (.ref 92), some (jb_v l1)] [(.ref 92)] Q)
  refine jiL0 (p := 1) rfl jM147 jq147_0 ?_
  refine jiL1 (p := 2) rfl jM147 jq147_1 ?_
  refine jw_ic (p := 5) rfl jM147 jq147_2 (jc_lt hl1 (jb_rn rfl)) (fun c1 => ?_) (fun c1 => ?_)
  · have h1 := jo_p c1 h
    refine jw_iconst (p := 15) rfl jM147 jq147_14 ?_
    refine jw_iret jM147 jq147_15 (fun _ => Or.inl rfl) ?_
    show jb_w (d + 1) 213 7 [some (.ref 92), some (jb_v l1)] [(jb_v 0), (.ref 92)] σ Q
    refine jw_if (p := 10) rfl jM213 jq213_7 (jc_eq (jb_rn rfl) jb_r0) (fun _ => ?_) (fun z => absurd (by decide) z)
    refine jw_iconst (p := 15) rfl jM213 jq213_14 ?_
    refine jg_putI (p := 18) (i := 0) rfl jM213 jq213_15 rfl (jo_92 s.1) (Or.inl jz_11_0) s (by decide) (by decide) (jb_rn rfl) ?_
    intro σ2 s2
    refine jaL0 (p := 19) rfl jM213 jq213_18 ?_
    refine jg_getI (p := 22) (i := 0) rfl jM213 jq213_19 rfl (jo_92 s2.1) jn_11_0 s2 (by decide) (by decide) jg_uH ?_
    refine jw_if (p := 25) rfl jM213 jq213_22 (jc_le (jb_rn rfl) jb_r0) (fun z => absurd z (by decide)) (fun _ => ?_)
    refine jw_iconst (p := 26) rfl jM213 jq213_25 ?_
    refine jw_goto jM213 jq213_26 ?_
    cases h1
    exact jw_iret jM213 jq213_35 (fun z => absurd z (by decide)) (k σ2 s2 (jb_rn rfl))
  · have h1 := jo_n c1 h
    refine jiL0 (p := 6) rfl jM147 jq147_5 ?_
    refine jiL2 (p := 7) rfl jM147 jq147_6 ?_
    refine jw_ic (p := 10) rfl jM147 jq147_7 (jc_gt hl1 (jb_rn rfl)) (fun c3 => ?_) (fun c3 => ?_)
    · have h3 := jo_p c3 h1
      refine jw_iconst (p := 15) rfl jM147 jq147_14 ?_
      refine jw_iret jM147 jq147_15 (fun _ => Or.inl rfl) ?_
      show jb_w (d + 1) 213 7 [some (.ref 92), some (jb_v l1)] [(jb_v 0), (.ref 92)] σ Q
      refine jw_if (p := 10) rfl jM213 jq213_7 (jc_eq (jb_rn rfl) jb_r0) (fun _ => ?_) (fun z => absurd (by decide) z)
      refine jw_iconst (p := 15) rfl jM213 jq213_14 ?_
      refine jg_putI (p := 18) (i := 0) rfl jM213 jq213_15 rfl (jo_92 s.1) (Or.inl jz_11_0) s (by decide) (by decide) (jb_rn rfl) ?_
      intro σ4 s4
      refine jaL0 (p := 19) rfl jM213 jq213_18 ?_
      refine jg_getI (p := 22) (i := 0) rfl jM213 jq213_19 rfl (jo_92 s4.1) jn_11_0 s4 (by decide) (by decide) jg_uH ?_
      refine jw_if (p := 25) rfl jM213 jq213_22 (jc_le (jb_rn rfl) jb_r0) (fun z => absurd z (by decide)) (fun _ => ?_)
      refine jw_iconst (p := 26) rfl jM213 jq213_25 ?_
      refine jw_goto jM213 jq213_26 ?_
      cases h3
      exact jw_iret jM213 jq213_35 (fun z => absurd z (by decide)) (k σ4 s4 (jb_rn rfl))
    · have h3 := jo_n c3 h1
      refine jw_iconst (p := 11) rfl jM147 jq147_10 ?_
      refine jw_goto jM147 jq147_11 ?_
      refine jw_iret jM147 jq147_15 (fun _ => Or.inr rfl) ?_
      show jb_w (d + 1) 213 7 [some (.ref 92), some (jb_v l1)] [(jb_v 1), (.ref 92)] σ Q
      refine jw_if (p := 10) rfl jM213 jq213_7 (jc_eq (jb_rn rfl) jb_r0) (fun z => absurd z (by decide)) (fun _ => ?_)
      refine jw_iconst (p := 11) rfl jM213 jq213_10 ?_
      refine jw_goto jM213 jq213_11 ?_
      refine jg_putI (p := 18) (i := 0) rfl jM213 jq213_15 rfl (jo_92 s.1) (Or.inl jz_11_0) s (by decide) (by decide) (jb_rn rfl) ?_
      intro σ5 s5
      refine jaL0 (p := 19) rfl jM213 jq213_18 ?_
      refine jg_getI (p := 22) (i := 0) rfl jM213 jq213_19 rfl (jo_92 s5.1) jn_11_0 s5 (by decide) (by decide) jg_uH ?_
      refine jw_if (p := 25) rfl jM213 jq213_22 (jc_le (jb_rn rfl) jb_r0) (fun _ => ?_) (fun z => absurd (by decide) z)
      refine jaL0 (p := 30) rfl jM213 jq213_29 ?_
      refine jw_getP (p := 33) (i := 30) (q := 113) rfl jM213 jq213_30 rfl (jo_92 s5.1) je_11_30 (jp_92_30 s5.1) ?_
      refine jiL1 (p := 34) rfl jM213 jq213_33 ?_
      obtain ⟨c6, h6⟩ := jo_i h3
      refine jg_iald (p := 35) rfl jM213 jq213_34 (ja_113 s5.1) c6.1 c6.2 s5 (by decide) (jg_uN (by decide)) ?_
      cases h6
      exact jw_iret jM213 jq213_35 (fun z => absurd z (by decide)) (k σ5 s5 (s.r _ _))
-- 214 page need 2
def fo214 (G : jg_G) (l1 : Int) (l2 : Int) : Option (jg_G × Int) := if l1 < 0 then (some (jg_u G 92 0 1, 0)) else (if 23 < l1 then (some (jg_u G 92 0 1, 0)) else (if l2 < 0 then (some (jg_u G 92 0 2, 0)) else (if 3 < l2 then (some (jg_u G 92 0 2, 0)) else (if 0 ≤ l1 ∧ l1 < 24 then jo_l (fr_ro (jg_u G 92 0 0) l1) fun x11 => if l2 = 3 then (jo_l (fr_fo (jg_u G 92 0 0) l1) fun x18 => if x18 = (-1) then (some (jg_u G 92 0 0, 0)) else (some (jg_u G 92 0 0, 1))) else (jo_l (fr_to (jg_u G 92 0 0) l1) fun x14 => if x14 = 0 then (if 0 ≤ ((67 * x11) + l2) ∧ ((67 * x11) + l2) < 305118 then some (jg_u G 92 0 0, G 93 ((67 * x11) + l2)) else none) else (some (jg_u G 92 0 0, (-1)))) else none))))
theorem jf214 {d : Nat} {σ0 : ib_H} {Q : ib_O → Prop} {G : jg_G} {l1 : Int} {l2 : Int} (hl1 : jb_r l1) (hl2 : jb_r l2) {r : jg_G × Int} (h : fo214 G l1 l2 = some r) (k : ∀ σ, jg_S σ0 r.1 σ → jb_r r.2 → Q (.inl (some (jb_v r.2)), σ)) : jg_W σ0 G (d + 2) 214 0 [some (.ref 92), some (jb_v l1), some (jb_v l2), none] [] Q := by
  intro σ s
  unfold fo214 at h
  refine jaL0 (p := 1) rfl jM214 jq214_0 ?_
  refine jiL1 (p := 2) rfl jM214 jq214_1 ?_
  refine jw_iconst (p := 3) rfl jM214 jq214_2 ?_
  refine jw_bipush (p := 5) rfl jM214 jq214_3 (by decide) ?_
  refine jw_callS [(jb_v l1), (jb_v 0), (jb_v 23)] jM214 jq214_5 rfl rfl rfl jM147 rfl rfl ?_
  show jb_w (d + 1) 147 0 [some (jb_v l1), some (jb_v 0), some (jb_v 23)] [] σ (jb_k (d + 2) 214 5 [some (.ref 92), some (jb_v l1), some (jb_v l2), none] [(.ref 92)] Q)
  refine jiL0 (p := 1) rfl jM147 jq147_0 ?_
  refine jiL1 (p := 2) rfl jM147 jq147_1 ?_
  refine jw_ic (p := 5) rfl jM147 jq147_2 (jc_lt hl1 (jb_rn rfl)) (fun c1 => ?_) (fun c1 => ?_)
  · have h1 := jo_p c1 h
    refine jw_iconst (p := 15) rfl jM147 jq147_14 ?_
    refine jw_iret jM147 jq147_15 (fun _ => Or.inl rfl) ?_
    show jb_w (d + 2) 214 8 [some (.ref 92), some (jb_v l1), some (jb_v l2), none] [(jb_v 0), (.ref 92)] σ Q
    refine jw_if (p := 11) rfl jM214 jq214_8 (jc_ne (jb_rn rfl) jb_r0) (fun z => absurd z (by decide)) (fun _ => ?_)
    refine jw_iconst (p := 12) rfl jM214 jq214_11 ?_
    refine jw_goto jM214 jq214_12 ?_
    refine jg_putI (p := 32) (i := 0) rfl jM214 jq214_29 rfl (jo_92 s.1) (Or.inl jz_11_0) s (by decide) (by decide) (jb_rn rfl) ?_
    intro σ2 s2
    refine jaL0 (p := 33) rfl jM214 jq214_32 ?_
    refine jg_getI (p := 36) (i := 0) rfl jM214 jq214_33 rfl (jo_92 s2.1) jn_11_0 s2 (by decide) (by decide) jg_uH ?_
    refine jw_if (p := 39) rfl jM214 jq214_36 (jc_le (jb_rn rfl) jb_r0) (fun z => absurd z (by decide)) (fun _ => ?_)
    refine jw_iconst (p := 40) rfl jM214 jq214_39 ?_
    cases h1
    exact jw_iret jM214 jq214_40 (fun z => absurd z (by decide)) (k σ2 s2 (jb_rn rfl))
  · have h1 := jo_n c1 h
    refine jiL0 (p := 6) rfl jM147 jq147_5 ?_
    refine jiL2 (p := 7) rfl jM147 jq147_6 ?_
    refine jw_ic (p := 10) rfl jM147 jq147_7 (jc_gt hl1 (jb_rn rfl)) (fun c3 => ?_) (fun c3 => ?_)
    · have h3 := jo_p c3 h1
      refine jw_iconst (p := 15) rfl jM147 jq147_14 ?_
      refine jw_iret jM147 jq147_15 (fun _ => Or.inl rfl) ?_
      show jb_w (d + 2) 214 8 [some (.ref 92), some (jb_v l1), some (jb_v l2), none] [(jb_v 0), (.ref 92)] σ Q
      refine jw_if (p := 11) rfl jM214 jq214_8 (jc_ne (jb_rn rfl) jb_r0) (fun z => absurd z (by decide)) (fun _ => ?_)
      refine jw_iconst (p := 12) rfl jM214 jq214_11 ?_
      refine jw_goto jM214 jq214_12 ?_
      refine jg_putI (p := 32) (i := 0) rfl jM214 jq214_29 rfl (jo_92 s.1) (Or.inl jz_11_0) s (by decide) (by decide) (jb_rn rfl) ?_
      intro σ4 s4
      refine jaL0 (p := 33) rfl jM214 jq214_32 ?_
      refine jg_getI (p := 36) (i := 0) rfl jM214 jq214_33 rfl (jo_92 s4.1) jn_11_0 s4 (by decide) (by decide) jg_uH ?_
      refine jw_if (p := 39) rfl jM214 jq214_36 (jc_le (jb_rn rfl) jb_r0) (fun z => absurd z (by decide)) (fun _ => ?_)
      refine jw_iconst (p := 40) rfl jM214 jq214_39 ?_
      cases h3
      exact jw_iret jM214 jq214_40 (fun z => absurd z (by decide)) (k σ4 s4 (jb_rn rfl))
    · have h3 := jo_n c3 h1
      refine jw_iconst (p := 11) rfl jM147 jq147_10 ?_
      refine jw_goto jM147 jq147_11 ?_
      refine jw_iret jM147 jq147_15 (fun _ => Or.inr rfl) ?_
      show jb_w (d + 2) 214 8 [some (.ref 92), some (jb_v l1), some (jb_v l2), none] [(jb_v 1), (.ref 92)] σ Q
      refine jw_if (p := 11) rfl jM214 jq214_8 (jc_ne (jb_rn rfl) jb_r0) (fun _ => ?_) (fun z => absurd (by decide) z)
      refine jiL2 (p := 16) rfl jM214 jq214_15 ?_
      refine jw_iconst (p := 17) rfl jM214 jq214_16 ?_
      refine jw_iconst (p := 18) rfl jM214 jq214_17 ?_
      refine jw_callS [(jb_v l2), (jb_v 0), (jb_v 3)] jM214 jq214_18 rfl rfl rfl jM147 rfl rfl ?_
      show jb_w (d + 1) 147 0 [some (jb_v l2), some (jb_v 0), some (jb_v 3)] [] σ (jb_k (d + 2) 214 18 [some (.ref 92), some (jb_v l1), some (jb_v l2), none] [(.ref 92)] Q)
      refine jiL0 (p := 1) rfl jM147 jq147_0 ?_
      refine jiL1 (p := 2) rfl jM147 jq147_1 ?_
      refine jw_ic (p := 5) rfl jM147 jq147_2 (jc_lt hl2 (jb_rn rfl)) (fun c5 => ?_) (fun c5 => ?_)
      · have h5 := jo_p c5 h3
        refine jw_iconst (p := 15) rfl jM147 jq147_14 ?_
        refine jw_iret jM147 jq147_15 (fun _ => Or.inl rfl) ?_
        show jb_w (d + 2) 214 21 [some (.ref 92), some (jb_v l1), some (jb_v l2), none] [(jb_v 0), (.ref 92)] σ Q
        refine jw_if (p := 24) rfl jM214 jq214_21 (jc_ne (jb_rn rfl) jb_r0) (fun z => absurd z (by decide)) (fun _ => ?_)
        refine jw_iconst (p := 25) rfl jM214 jq214_24 ?_
        refine jw_goto jM214 jq214_25 ?_
        refine jg_putI (p := 32) (i := 0) rfl jM214 jq214_29 rfl (jo_92 s.1) (Or.inl jz_11_0) s (by decide) (by decide) (jb_rn rfl) ?_
        intro σ6 s6
        refine jaL0 (p := 33) rfl jM214 jq214_32 ?_
        refine jg_getI (p := 36) (i := 0) rfl jM214 jq214_33 rfl (jo_92 s6.1) jn_11_0 s6 (by decide) (by decide) jg_uH ?_
        refine jw_if (p := 39) rfl jM214 jq214_36 (jc_le (jb_rn rfl) jb_r0) (fun z => absurd z (by decide)) (fun _ => ?_)
        refine jw_iconst (p := 40) rfl jM214 jq214_39 ?_
        cases h5
        exact jw_iret jM214 jq214_40 (fun z => absurd z (by decide)) (k σ6 s6 (jb_rn rfl))
      · have h5 := jo_n c5 h3
        refine jiL0 (p := 6) rfl jM147 jq147_5 ?_
        refine jiL2 (p := 7) rfl jM147 jq147_6 ?_
        refine jw_ic (p := 10) rfl jM147 jq147_7 (jc_gt hl2 (jb_rn rfl)) (fun c7 => ?_) (fun c7 => ?_)
        · have h7 := jo_p c7 h5
          refine jw_iconst (p := 15) rfl jM147 jq147_14 ?_
          refine jw_iret jM147 jq147_15 (fun _ => Or.inl rfl) ?_
          show jb_w (d + 2) 214 21 [some (.ref 92), some (jb_v l1), some (jb_v l2), none] [(jb_v 0), (.ref 92)] σ Q
          refine jw_if (p := 24) rfl jM214 jq214_21 (jc_ne (jb_rn rfl) jb_r0) (fun z => absurd z (by decide)) (fun _ => ?_)
          refine jw_iconst (p := 25) rfl jM214 jq214_24 ?_
          refine jw_goto jM214 jq214_25 ?_
          refine jg_putI (p := 32) (i := 0) rfl jM214 jq214_29 rfl (jo_92 s.1) (Or.inl jz_11_0) s (by decide) (by decide) (jb_rn rfl) ?_
          intro σ8 s8
          refine jaL0 (p := 33) rfl jM214 jq214_32 ?_
          refine jg_getI (p := 36) (i := 0) rfl jM214 jq214_33 rfl (jo_92 s8.1) jn_11_0 s8 (by decide) (by decide) jg_uH ?_
          refine jw_if (p := 39) rfl jM214 jq214_36 (jc_le (jb_rn rfl) jb_r0) (fun z => absurd z (by decide)) (fun _ => ?_)
          refine jw_iconst (p := 40) rfl jM214 jq214_39 ?_
          cases h7
          exact jw_iret jM214 jq214_40 (fun z => absurd z (by decide)) (k σ8 s8 (jb_rn rfl))
        · have h7 := jo_n c7 h5
          refine jw_iconst (p := 11) rfl jM147 jq147_10 ?_
          refine jw_goto jM147 jq147_11 ?_
          refine jw_iret jM147 jq147_15 (fun _ => Or.inr rfl) ?_
          show jb_w (d + 2) 214 21 [some (.ref 92), some (jb_v l1), some (jb_v l2), none] [(jb_v 1), (.ref 92)] σ Q
          refine jw_if (p := 24) rfl jM214 jq214_21 (jc_ne (jb_rn rfl) jb_r0) (fun _ => ?_) (fun z => absurd (by decide) z)
          refine jw_iconst (p := 29) rfl jM214 jq214_28 ?_
          refine jg_putI (p := 32) (i := 0) rfl jM214 jq214_29 rfl (jo_92 s.1) (Or.inl jz_11_0) s (by decide) (by decide) (jb_rn rfl) ?_
          intro σ9 s9
          refine jaL0 (p := 33) rfl jM214 jq214_32 ?_
          refine jg_getI (p := 36) (i := 0) rfl jM214 jq214_33 rfl (jo_92 s9.1) jn_11_0 s9 (by decide) (by decide) jg_uH ?_
          refine jw_if (p := 39) rfl jM214 jq214_36 (jc_le (jb_rn rfl) jb_r0) (fun _ => ?_) (fun z => absurd (by decide) z)
          refine jaL0 (p := 42) rfl jM214 jq214_41 ?_
          refine jiL1 (p := 43) rfl jM214 jq214_42 ?_
          refine jw_callV [(jb_v l1)] jM214 jq214_43 rfl rfl (jo_92 s9.1) rfl jM161 rfl rfl ?_
          obtain ⟨c10, h10⟩ := jo_i h7
          obtain ⟨x11, e12, h12⟩ := jo_lb h10
          refine cs161 c10 (fun σ11 s11 r11 => ?_) σ9 s9
          rw [e12] at r11 ⊢
          show jb_w (d + 2) 214 46 [some (.ref 92), some (jb_v l1), some (jb_v l2), none] [(jb_v x11)] σ11 Q
          refine jiS3 (p := 47) rfl jM214 jq214_46 ?_
          refine jiL2 (p := 48) rfl jM214 jq214_47 ?_
          refine jw_iconst (p := 49) rfl jM214 jq214_48 ?_
          refine jw_ic (p := 52) rfl jM214 jq214_49 (jc_ne hl2 (jb_rn rfl)) (fun c13 => ?_) (fun c13 => ?_)
          · have h13 := jo_n c13 h12
            refine jaL0 (p := 70) rfl jM214 jq214_69 ?_
            refine jiL1 (p := 71) rfl jM214 jq214_70 ?_
            refine jw_callV [(jb_v l1)] jM214 jq214_71 rfl rfl (jo_92 s11.1) rfl jM162 rfl rfl ?_
            obtain ⟨x14, e15, h15⟩ := jo_lb h13
            refine cs162 c10 (fun σ14 s14 r14 => ?_) σ11 s11
            rw [e15] at r14 ⊢
            show jb_w (d + 2) 214 74 [some (.ref 92), some (jb_v l1), some (jb_v l2), some (jb_v x11)] [(jb_v x14)] σ14 Q
            refine jw_if (p := 77) rfl jM214 jq214_74 (jc_eq r14 jb_r0) (fun c16 => ?_) (fun c16 => ?_)
            · have h16 := jo_p c16 h15
              refine jaL0 (p := 82) rfl jM214 jq214_81 ?_
              refine jw_getP (p := 85) (i := 1) (q := 93) rfl jM214 jq214_82 rfl (jo_92 s14.1) je_11_1 (jp_92_1 s14.1) ?_
              refine jw_bipush (p := 87) rfl jM214 jq214_85 (by decide) ?_
              refine jiL3 (p := 88) rfl jM214 jq214_87 ?_
              refine jw_imul (p := 89) rfl jM214 jq214_88 ?_
              refine jiL2 (p := 90) rfl jM214 jq214_89 ?_
              refine jw_iadd (p := 91) rfl jM214 jq214_90 ?_
              obtain ⟨c17, h17⟩ := jo_i h16
              refine jg_iald (p := 92) rfl jM214 jq214_91 (ja_93 s14.1) c17.1 c17.2 s14 (by decide) (jg_uN (by decide)) ?_
              cases h17
              exact jw_iret jM214 jq214_92 (fun z => absurd z (by decide)) (k σ14 s14 (s.r _ _))
            · have h16 := jo_n c16 h15
              refine jw_iconst (p := 78) rfl jM214 jq214_77 ?_
              refine jw_goto jM214 jq214_78 ?_
              cases h16
              exact jw_iret jM214 jq214_92 (fun z => absurd z (by decide)) (k σ14 s14 (jb_rn rfl))
          · have h13 := jo_p (Decidable.byContradiction c13) h12
            refine jaL0 (p := 53) rfl jM214 jq214_52 ?_
            refine jiL1 (p := 54) rfl jM214 jq214_53 ?_
            refine jw_callV [(jb_v l1)] jM214 jq214_54 rfl rfl (jo_92 s11.1) rfl jM160 rfl rfl ?_
            obtain ⟨x18, e19, h19⟩ := jo_lb h13
            refine cs160 hl1 (fun σ18 s18 r18 => ?_) σ11 s11
            rw [e19] at r18 ⊢
            show jb_w (d + 2) 214 57 [some (.ref 92), some (jb_v l1), some (jb_v l2), some (jb_v x11)] [(jb_v x18)] σ18 Q
            refine jw_iconst (p := 58) rfl jM214 jq214_57 ?_
            refine jw_ic (p := 61) rfl jM214 jq214_58 (jc_ne r18 (jb_rn rfl)) (fun c20 => ?_) (fun c20 => ?_)
            · have h20 := jo_n c20 h19
              refine jw_iconst (p := 66) rfl jM214 jq214_65 ?_
              refine jw_goto jM214 jq214_66 ?_
              cases h20
              exact jw_iret jM214 jq214_92 (fun z => absurd z (by decide)) (k σ18 s18 (jb_rn rfl))
            · have h20 := jo_p (Decidable.byContradiction c20) h19
              refine jw_iconst (p := 62) rfl jM214 jq214_61 ?_
              refine jw_goto jM214 jq214_62 ?_
              cases h20
              exact jw_iret jM214 jq214_92 (fun z => absurd z (by decide)) (k σ18 s18 (jb_rn rfl))
-- 215 entry need 2
def fo215 (G : jg_G) (l1 : Int) (l2 : Int) : Option (jg_G × Int) := if l1 < 0 then (some (jg_u G 92 0 1, 0)) else (if 23 < l1 then (some (jg_u G 92 0 1, 0)) else (if l2 < 0 then (some (jg_u G 92 0 1, 0)) else (if 0 ≤ l1 ∧ l1 < 24 then jo_l (fr_ro (jg_u G 92 0 0) l1) fun x9 => jo_l (fr_to (jg_u G 92 0 0) l1) fun x11 => if x11 = 0 then (if 0 ≤ ((67 * x9) + 2) ∧ ((67 * x9) + 2) < 305118 then if l2 < G 93 ((67 * x9) + 2) then (if 0 ≤ (67 * x9) ∧ (67 * x9) < 305118 then if G 93 (67 * x9) = 1 then (if 0 ≤ (((67 * x9) + 3) + (2 * l2)) ∧ (((67 * x9) + 3) + (2 * l2)) < 305118 then if 0 ≤ (((67 * x9) + 4) + (2 * l2)) ∧ (((67 * x9) + 4) + (2 * l2)) < 305118 then if -2147483648 ≤ ((1000 * (G 93 (((67 * x9) + 3) + (2 * l2)))) + (G 93 (((67 * x9) + 4) + (2 * l2)))) ∧ ((1000 * (G 93 (((67 * x9) + 3) + (2 * l2)))) + (G 93 (((67 * x9) + 4) + (2 * l2)))) < 2147483648 then some (jg_u G 92 0 0, (1000 * (G 93 (((67 * x9) + 3) + (2 * l2)))) + (G 93 (((67 * x9) + 4) + (2 * l2)))) else none else none else none) else (if 0 ≤ (((67 * x9) + 3) + (2 * l2)) ∧ (((67 * x9) + 3) + (2 * l2)) < 305118 then if 0 ≤ (((67 * x9) + 4) + (2 * l2)) ∧ (((67 * x9) + 4) + (2 * l2)) < 305118 then if -2147483648 ≤ ((100 * (G 93 (((67 * x9) + 3) + (2 * l2)))) + (G 93 (((67 * x9) + 4) + (2 * l2)))) ∧ ((100 * (G 93 (((67 * x9) + 3) + (2 * l2)))) + (G 93 (((67 * x9) + 4) + (2 * l2)))) < 2147483648 then some (jg_u G 92 0 0, (100 * (G 93 (((67 * x9) + 3) + (2 * l2)))) + (G 93 (((67 * x9) + 4) + (2 * l2)))) else none else none else none) else none) else (some (jg_u G 92 0 0, (-1))) else none) else (some (jg_u G 92 0 0, (-1))) else none)))
theorem jf215 {d : Nat} {σ0 : ib_H} {Q : ib_O → Prop} {G : jg_G} {l1 : Int} {l2 : Int} (hl1 : jb_r l1) (hl2 : jb_r l2) {r : jg_G × Int} (h : fo215 G l1 l2 = some r) (k : ∀ σ, jg_S σ0 r.1 σ → jb_r r.2 → Q (.inl (some (jb_v r.2)), σ)) : jg_W σ0 G (d + 2) 215 0 [some (.ref 92), some (jb_v l1), some (jb_v l2), none] [] Q := by
  intro σ s
  unfold fo215 at h
  refine jaL0 (p := 1) rfl jM215 jq215_0 ?_
  refine jiL1 (p := 2) rfl jM215 jq215_1 ?_
  refine jw_iconst (p := 3) rfl jM215 jq215_2 ?_
  refine jw_bipush (p := 5) rfl jM215 jq215_3 (by decide) ?_
  refine jw_callS [(jb_v l1), (jb_v 0), (jb_v 23)] jM215 jq215_5 rfl rfl rfl jM147 rfl rfl ?_
  show jb_w (d + 1) 147 0 [some (jb_v l1), some (jb_v 0), some (jb_v 23)] [] σ (jb_k (d + 2) 215 5 [some (.ref 92), some (jb_v l1), some (jb_v l2), none] [(.ref 92)] Q)
  refine jiL0 (p := 1) rfl jM147 jq147_0 ?_
  refine jiL1 (p := 2) rfl jM147 jq147_1 ?_
  refine jw_ic (p := 5) rfl jM147 jq147_2 (jc_lt hl1 (jb_rn rfl)) (fun c1 => ?_) (fun c1 => ?_)
  · have h1 := jo_p c1 h
    refine jw_iconst (p := 15) rfl jM147 jq147_14 ?_
    refine jw_iret jM147 jq147_15 (fun _ => Or.inl rfl) ?_
    show jb_w (d + 2) 215 8 [some (.ref 92), some (jb_v l1), some (jb_v l2), none] [(jb_v 0), (.ref 92)] σ Q
    refine jw_if (p := 11) rfl jM215 jq215_8 (jc_eq (jb_rn rfl) jb_r0) (fun _ => ?_) (fun z => absurd (by decide) z)
    refine jw_iconst (p := 20) rfl jM215 jq215_19 ?_
    refine jg_putI (p := 23) (i := 0) rfl jM215 jq215_20 rfl (jo_92 s.1) (Or.inl jz_11_0) s (by decide) (by decide) (jb_rn rfl) ?_
    intro σ2 s2
    refine jaL0 (p := 24) rfl jM215 jq215_23 ?_
    refine jg_getI (p := 27) (i := 0) rfl jM215 jq215_24 rfl (jo_92 s2.1) jn_11_0 s2 (by decide) (by decide) jg_uH ?_
    refine jw_if (p := 30) rfl jM215 jq215_27 (jc_le (jb_rn rfl) jb_r0) (fun z => absurd z (by decide)) (fun _ => ?_)
    refine jw_iconst (p := 31) rfl jM215 jq215_30 ?_
    cases h1
    exact jw_iret jM215 jq215_31 (fun z => absurd z (by decide)) (k σ2 s2 (jb_rn rfl))
  · have h1 := jo_n c1 h
    refine jiL0 (p := 6) rfl jM147 jq147_5 ?_
    refine jiL2 (p := 7) rfl jM147 jq147_6 ?_
    refine jw_ic (p := 10) rfl jM147 jq147_7 (jc_gt hl1 (jb_rn rfl)) (fun c3 => ?_) (fun c3 => ?_)
    · have h3 := jo_p c3 h1
      refine jw_iconst (p := 15) rfl jM147 jq147_14 ?_
      refine jw_iret jM147 jq147_15 (fun _ => Or.inl rfl) ?_
      show jb_w (d + 2) 215 8 [some (.ref 92), some (jb_v l1), some (jb_v l2), none] [(jb_v 0), (.ref 92)] σ Q
      refine jw_if (p := 11) rfl jM215 jq215_8 (jc_eq (jb_rn rfl) jb_r0) (fun _ => ?_) (fun z => absurd (by decide) z)
      refine jw_iconst (p := 20) rfl jM215 jq215_19 ?_
      refine jg_putI (p := 23) (i := 0) rfl jM215 jq215_20 rfl (jo_92 s.1) (Or.inl jz_11_0) s (by decide) (by decide) (jb_rn rfl) ?_
      intro σ4 s4
      refine jaL0 (p := 24) rfl jM215 jq215_23 ?_
      refine jg_getI (p := 27) (i := 0) rfl jM215 jq215_24 rfl (jo_92 s4.1) jn_11_0 s4 (by decide) (by decide) jg_uH ?_
      refine jw_if (p := 30) rfl jM215 jq215_27 (jc_le (jb_rn rfl) jb_r0) (fun z => absurd z (by decide)) (fun _ => ?_)
      refine jw_iconst (p := 31) rfl jM215 jq215_30 ?_
      cases h3
      exact jw_iret jM215 jq215_31 (fun z => absurd z (by decide)) (k σ4 s4 (jb_rn rfl))
    · have h3 := jo_n c3 h1
      refine jw_iconst (p := 11) rfl jM147 jq147_10 ?_
      refine jw_goto jM147 jq147_11 ?_
      refine jw_iret jM147 jq147_15 (fun _ => Or.inr rfl) ?_
      show jb_w (d + 2) 215 8 [some (.ref 92), some (jb_v l1), some (jb_v l2), none] [(jb_v 1), (.ref 92)] σ Q
      refine jw_if (p := 11) rfl jM215 jq215_8 (jc_eq (jb_rn rfl) jb_r0) (fun z => absurd z (by decide)) (fun _ => ?_)
      refine jiL2 (p := 12) rfl jM215 jq215_11 ?_
      refine jw_if (p := 15) rfl jM215 jq215_12 (jc_lt hl2 jb_r0) (fun c5 => ?_) (fun c5 => ?_)
      · have h5 := jo_p c5 h3
        refine jw_iconst (p := 20) rfl jM215 jq215_19 ?_
        refine jg_putI (p := 23) (i := 0) rfl jM215 jq215_20 rfl (jo_92 s.1) (Or.inl jz_11_0) s (by decide) (by decide) (jb_rn rfl) ?_
        intro σ6 s6
        refine jaL0 (p := 24) rfl jM215 jq215_23 ?_
        refine jg_getI (p := 27) (i := 0) rfl jM215 jq215_24 rfl (jo_92 s6.1) jn_11_0 s6 (by decide) (by decide) jg_uH ?_
        refine jw_if (p := 30) rfl jM215 jq215_27 (jc_le (jb_rn rfl) jb_r0) (fun z => absurd z (by decide)) (fun _ => ?_)
        refine jw_iconst (p := 31) rfl jM215 jq215_30 ?_
        cases h5
        exact jw_iret jM215 jq215_31 (fun z => absurd z (by decide)) (k σ6 s6 (jb_rn rfl))
      · have h5 := jo_n c5 h3
        refine jw_iconst (p := 16) rfl jM215 jq215_15 ?_
        refine jw_goto jM215 jq215_16 ?_
        refine jg_putI (p := 23) (i := 0) rfl jM215 jq215_20 rfl (jo_92 s.1) (Or.inl jz_11_0) s (by decide) (by decide) (jb_rn rfl) ?_
        intro σ7 s7
        refine jaL0 (p := 24) rfl jM215 jq215_23 ?_
        refine jg_getI (p := 27) (i := 0) rfl jM215 jq215_24 rfl (jo_92 s7.1) jn_11_0 s7 (by decide) (by decide) jg_uH ?_
        refine jw_if (p := 30) rfl jM215 jq215_27 (jc_le (jb_rn rfl) jb_r0) (fun _ => ?_) (fun z => absurd (by decide) z)
        refine jaL0 (p := 33) rfl jM215 jq215_32 ?_
        refine jiL1 (p := 34) rfl jM215 jq215_33 ?_
        refine jw_callV [(jb_v l1)] jM215 jq215_34 rfl rfl (jo_92 s7.1) rfl jM161 rfl rfl ?_
        obtain ⟨c8, h8⟩ := jo_i h5
        obtain ⟨x9, e10, h10⟩ := jo_lb h8
        refine cs161 c8 (fun σ9 s9 r9 => ?_) σ7 s7
        rw [e10] at r9 ⊢
        show jb_w (d + 2) 215 37 [some (.ref 92), some (jb_v l1), some (jb_v l2), none] [(jb_v x9)] σ9 Q
        refine jiS3 (p := 38) rfl jM215 jq215_37 ?_
        refine jaL0 (p := 39) rfl jM215 jq215_38 ?_
        refine jiL1 (p := 40) rfl jM215 jq215_39 ?_
        refine jw_callV [(jb_v l1)] jM215 jq215_40 rfl rfl (jo_92 s9.1) rfl jM162 rfl rfl ?_
        obtain ⟨x11, e12, h12⟩ := jo_lb h10
        refine cs162 c8 (fun σ11 s11 r11 => ?_) σ9 s9
        rw [e12] at r11 ⊢
        show jb_w (d + 2) 215 43 [some (.ref 92), some (jb_v l1), some (jb_v l2), some (jb_v x9)] [(jb_v x11)] σ11 Q
        refine jw_if (p := 46) rfl jM215 jq215_43 (jc_ne r11 jb_r0) (fun c13 => ?_) (fun c13 => ?_)
        · have h13 := jo_n c13 h12
          refine jw_iconst (p := 56) rfl jM215 jq215_55 ?_
          cases h13
          exact jw_iret jM215 jq215_56 (fun z => absurd z (by decide)) (k σ11 s11 (jb_rn rfl))
        · have h13 := jo_p (Decidable.byContradiction c13) h12
          refine jiL2 (p := 47) rfl jM215 jq215_46 ?_
          refine jaL0 (p := 48) rfl jM215 jq215_47 ?_
          refine jiL3 (p := 49) rfl jM215 jq215_48 ?_
          refine jw_callV [(jb_v x9)] jM215 jq215_49 rfl rfl (jo_92 s11.1) rfl jM150 rfl rfl ?_
          show jb_w (d + 1) 150 0 [some (.ref 92), some (jb_v x9)] [] σ11 (jb_k (d + 2) 215 49 [some (.ref 92), some (jb_v l1), some (jb_v l2), some (jb_v x9)] [(jb_v l2)] Q)
          refine jaL0 (p := 1) rfl jM150 jq150_0 ?_
          refine jw_getP (p := 4) (i := 1) (q := 93) rfl jM150 jq150_1 rfl (jo_92 s11.1) je_11_1 (jp_92_1 s11.1) ?_
          refine jw_bipush (p := 6) rfl jM150 jq150_4 (by decide) ?_
          refine jiL1 (p := 7) rfl jM150 jq150_6 ?_
          refine jw_imul (p := 8) rfl jM150 jq150_7 ?_
          refine jw_iconst (p := 9) rfl jM150 jq150_8 ?_
          refine jw_iadd (p := 10) rfl jM150 jq150_9 ?_
          obtain ⟨c14, h14⟩ := jo_i h13
          refine jg_iald (p := 11) rfl jM150 jq150_10 (ja_93 s11.1) c14.1 c14.2 s11 (by decide) (jg_uN (by decide)) ?_
          refine jw_iret jM150 jq150_11 (fun z => absurd z (by decide)) ?_
          show jb_w (d + 2) 215 52 [some (.ref 92), some (jb_v l1), some (jb_v l2), some (jb_v x9)] [(jb_v (G 93 ((67 * x9) + 2))), (jb_v l2)] σ11 Q
          refine jw_ic (p := 55) rfl jM215 jq215_52 (jc_lt hl2 (s.r _ _)) (fun c15 => ?_) (fun c15 => ?_)
          · have h15 := jo_p c15 h14
            refine jaL0 (p := 58) rfl jM215 jq215_57 ?_
            refine jiL3 (p := 59) rfl jM215 jq215_58 ?_
            refine jw_callV [(jb_v x9)] jM215 jq215_59 rfl rfl (jo_92 s11.1) rfl jM149 rfl rfl ?_
            show jb_w (d + 1) 149 0 [some (.ref 92), some (jb_v x9)] [] σ11 (jb_k (d + 2) 215 59 [some (.ref 92), some (jb_v l1), some (jb_v l2), some (jb_v x9)] [] Q)
            refine jaL0 (p := 1) rfl jM149 jq149_0 ?_
            refine jw_getP (p := 4) (i := 1) (q := 93) rfl jM149 jq149_1 rfl (jo_92 s11.1) je_11_1 (jp_92_1 s11.1) ?_
            refine jw_bipush (p := 6) rfl jM149 jq149_4 (by decide) ?_
            refine jiL1 (p := 7) rfl jM149 jq149_6 ?_
            refine jw_imul (p := 8) rfl jM149 jq149_7 ?_
            obtain ⟨c16, h16⟩ := jo_i h15
            refine jg_iald (p := 9) rfl jM149 jq149_8 (ja_93 s11.1) c16.1 c16.2 s11 (by decide) (jg_uN (by decide)) ?_
            refine jw_iret jM149 jq149_9 (fun z => absurd z (by decide)) ?_
            show jb_w (d + 2) 215 62 [some (.ref 92), some (jb_v l1), some (jb_v l2), some (jb_v x9)] [(jb_v (G 93 (67 * x9)))] σ11 Q
            refine jw_iconst (p := 63) rfl jM215 jq215_62 ?_
            refine jw_ic (p := 66) rfl jM215 jq215_63 (jc_ne (s.r _ _) (jb_rn rfl)) (fun c17 => ?_) (fun c17 => ?_)
            · have h17 := jo_n c17 h16
              refine jw_bipush (p := 74) rfl jM215 jq215_72 (by decide) ?_
              refine jaL0 (p := 75) rfl jM215 jq215_74 ?_
              refine jiL3 (p := 76) rfl jM215 jq215_75 ?_
              refine jiL2 (p := 77) rfl jM215 jq215_76 ?_
              refine jw_callV [(jb_v x9), (jb_v l2)] jM215 jq215_77 rfl rfl (jo_92 s11.1) rfl jM151 rfl rfl ?_
              show jb_w (d + 1) 151 0 [some (.ref 92), some (jb_v x9), some (jb_v l2)] [] σ11 (jb_k (d + 2) 215 77 [some (.ref 92), some (jb_v l1), some (jb_v l2), some (jb_v x9)] [(jb_v 100)] Q)
              refine jaL0 (p := 1) rfl jM151 jq151_0 ?_
              refine jw_getP (p := 4) (i := 1) (q := 93) rfl jM151 jq151_1 rfl (jo_92 s11.1) je_11_1 (jp_92_1 s11.1) ?_
              refine jw_bipush (p := 6) rfl jM151 jq151_4 (by decide) ?_
              refine jiL1 (p := 7) rfl jM151 jq151_6 ?_
              refine jw_imul (p := 8) rfl jM151 jq151_7 ?_
              refine jw_iconst (p := 9) rfl jM151 jq151_8 ?_
              refine jw_iadd (p := 10) rfl jM151 jq151_9 ?_
              refine jw_iconst (p := 11) rfl jM151 jq151_10 ?_
              refine jiL2 (p := 12) rfl jM151 jq151_11 ?_
              refine jw_imul (p := 13) rfl jM151 jq151_12 ?_
              refine jw_iadd (p := 14) rfl jM151 jq151_13 ?_
              obtain ⟨c18, h18⟩ := jo_i h17
              refine jg_iald (p := 15) rfl jM151 jq151_14 (ja_93 s11.1) c18.1 c18.2 s11 (by decide) (jg_uN (by decide)) ?_
              refine jw_iret jM151 jq151_15 (fun z => absurd z (by decide)) ?_
              show jb_w (d + 2) 215 80 [some (.ref 92), some (jb_v l1), some (jb_v l2), some (jb_v x9)] [(jb_v (G 93 (((67 * x9) + 3) + (2 * l2)))), (jb_v 100)] σ11 Q
              refine jw_imul (p := 81) rfl jM215 jq215_80 ?_
              refine jaL0 (p := 82) rfl jM215 jq215_81 ?_
              refine jiL3 (p := 83) rfl jM215 jq215_82 ?_
              refine jiL2 (p := 84) rfl jM215 jq215_83 ?_
              refine jw_callV [(jb_v x9), (jb_v l2)] jM215 jq215_84 rfl rfl (jo_92 s11.1) rfl jM152 rfl rfl ?_
              show jb_w (d + 1) 152 0 [some (.ref 92), some (jb_v x9), some (jb_v l2)] [] σ11 (jb_k (d + 2) 215 84 [some (.ref 92), some (jb_v l1), some (jb_v l2), some (jb_v x9)] [(jb_v (100 * (G 93 (((67 * x9) + 3) + (2 * l2)))))] Q)
              refine jaL0 (p := 1) rfl jM152 jq152_0 ?_
              refine jw_getP (p := 4) (i := 1) (q := 93) rfl jM152 jq152_1 rfl (jo_92 s11.1) je_11_1 (jp_92_1 s11.1) ?_
              refine jw_bipush (p := 6) rfl jM152 jq152_4 (by decide) ?_
              refine jiL1 (p := 7) rfl jM152 jq152_6 ?_
              refine jw_imul (p := 8) rfl jM152 jq152_7 ?_
              refine jw_iconst (p := 9) rfl jM152 jq152_8 ?_
              refine jw_iadd (p := 10) rfl jM152 jq152_9 ?_
              refine jw_iconst (p := 11) rfl jM152 jq152_10 ?_
              refine jiL2 (p := 12) rfl jM152 jq152_11 ?_
              refine jw_imul (p := 13) rfl jM152 jq152_12 ?_
              refine jw_iadd (p := 14) rfl jM152 jq152_13 ?_
              obtain ⟨c19, h19⟩ := jo_i h18
              refine jg_iald (p := 15) rfl jM152 jq152_14 (ja_93 s11.1) c19.1 c19.2 s11 (by decide) (jg_uN (by decide)) ?_
              refine jw_iret jM152 jq152_15 (fun z => absurd z (by decide)) ?_
              show jb_w (d + 2) 215 87 [some (.ref 92), some (jb_v l1), some (jb_v l2), some (jb_v x9)] [(jb_v (G 93 (((67 * x9) + 4) + (2 * l2)))), (jb_v (100 * (G 93 (((67 * x9) + 3) + (2 * l2)))))] σ11 Q
              refine jw_iadd (p := 88) rfl jM215 jq215_87 ?_
              obtain ⟨c20, h20⟩ := jo_i h19
              cases h20
              exact jw_iret jM215 jq215_88 (fun z => absurd z (by decide)) (k σ11 s11 c20)
            · have h17 := jo_p (Decidable.byContradiction c17) h16
              refine jw_sipush (p := 69) rfl jM215 jq215_66 (by decide) ?_
              refine jw_goto jM215 jq215_69 ?_
              refine jaL0 (p := 75) rfl jM215 jq215_74 ?_
              refine jiL3 (p := 76) rfl jM215 jq215_75 ?_
              refine jiL2 (p := 77) rfl jM215 jq215_76 ?_
              refine jw_callV [(jb_v x9), (jb_v l2)] jM215 jq215_77 rfl rfl (jo_92 s11.1) rfl jM151 rfl rfl ?_
              show jb_w (d + 1) 151 0 [some (.ref 92), some (jb_v x9), some (jb_v l2)] [] σ11 (jb_k (d + 2) 215 77 [some (.ref 92), some (jb_v l1), some (jb_v l2), some (jb_v x9)] [(jb_v 1000)] Q)
              refine jaL0 (p := 1) rfl jM151 jq151_0 ?_
              refine jw_getP (p := 4) (i := 1) (q := 93) rfl jM151 jq151_1 rfl (jo_92 s11.1) je_11_1 (jp_92_1 s11.1) ?_
              refine jw_bipush (p := 6) rfl jM151 jq151_4 (by decide) ?_
              refine jiL1 (p := 7) rfl jM151 jq151_6 ?_
              refine jw_imul (p := 8) rfl jM151 jq151_7 ?_
              refine jw_iconst (p := 9) rfl jM151 jq151_8 ?_
              refine jw_iadd (p := 10) rfl jM151 jq151_9 ?_
              refine jw_iconst (p := 11) rfl jM151 jq151_10 ?_
              refine jiL2 (p := 12) rfl jM151 jq151_11 ?_
              refine jw_imul (p := 13) rfl jM151 jq151_12 ?_
              refine jw_iadd (p := 14) rfl jM151 jq151_13 ?_
              obtain ⟨c21, h21⟩ := jo_i h17
              refine jg_iald (p := 15) rfl jM151 jq151_14 (ja_93 s11.1) c21.1 c21.2 s11 (by decide) (jg_uN (by decide)) ?_
              refine jw_iret jM151 jq151_15 (fun z => absurd z (by decide)) ?_
              show jb_w (d + 2) 215 80 [some (.ref 92), some (jb_v l1), some (jb_v l2), some (jb_v x9)] [(jb_v (G 93 (((67 * x9) + 3) + (2 * l2)))), (jb_v 1000)] σ11 Q
              refine jw_imul (p := 81) rfl jM215 jq215_80 ?_
              refine jaL0 (p := 82) rfl jM215 jq215_81 ?_
              refine jiL3 (p := 83) rfl jM215 jq215_82 ?_
              refine jiL2 (p := 84) rfl jM215 jq215_83 ?_
              refine jw_callV [(jb_v x9), (jb_v l2)] jM215 jq215_84 rfl rfl (jo_92 s11.1) rfl jM152 rfl rfl ?_
              show jb_w (d + 1) 152 0 [some (.ref 92), some (jb_v x9), some (jb_v l2)] [] σ11 (jb_k (d + 2) 215 84 [some (.ref 92), some (jb_v l1), some (jb_v l2), some (jb_v x9)] [(jb_v (1000 * (G 93 (((67 * x9) + 3) + (2 * l2)))))] Q)
              refine jaL0 (p := 1) rfl jM152 jq152_0 ?_
              refine jw_getP (p := 4) (i := 1) (q := 93) rfl jM152 jq152_1 rfl (jo_92 s11.1) je_11_1 (jp_92_1 s11.1) ?_
              refine jw_bipush (p := 6) rfl jM152 jq152_4 (by decide) ?_
              refine jiL1 (p := 7) rfl jM152 jq152_6 ?_
              refine jw_imul (p := 8) rfl jM152 jq152_7 ?_
              refine jw_iconst (p := 9) rfl jM152 jq152_8 ?_
              refine jw_iadd (p := 10) rfl jM152 jq152_9 ?_
              refine jw_iconst (p := 11) rfl jM152 jq152_10 ?_
              refine jiL2 (p := 12) rfl jM152 jq152_11 ?_
              refine jw_imul (p := 13) rfl jM152 jq152_12 ?_
              refine jw_iadd (p := 14) rfl jM152 jq152_13 ?_
              obtain ⟨c22, h22⟩ := jo_i h21
              refine jg_iald (p := 15) rfl jM152 jq152_14 (ja_93 s11.1) c22.1 c22.2 s11 (by decide) (jg_uN (by decide)) ?_
              refine jw_iret jM152 jq152_15 (fun z => absurd z (by decide)) ?_
              show jb_w (d + 2) 215 87 [some (.ref 92), some (jb_v l1), some (jb_v l2), some (jb_v x9)] [(jb_v (G 93 (((67 * x9) + 4) + (2 * l2)))), (jb_v (1000 * (G 93 (((67 * x9) + 3) + (2 * l2)))))] σ11 Q
              refine jw_iadd (p := 88) rfl jM215 jq215_87 ?_
              obtain ⟨c23, h23⟩ := jo_i h22
              cases h23
              exact jw_iret jM215 jq215_88 (fun z => absurd z (by decide)) (k σ11 s11 c23)
          · have h15 := jo_n c15 h14
            refine jw_iconst (p := 56) rfl jM215 jq215_55 ?_
            cases h15
            exact jw_iret jM215 jq215_56 (fun z => absurd z (by decide)) (k σ11 s11 (jb_rn rfl))
-- 216 frame need 1
def fo216 (G : jg_G) (l1 : Int) (l2 : Int) : Option (jg_G × Int) := if l1 < 0 then (some (jg_u G 92 0 1, 0)) else (if 3 < l1 then (some (jg_u G 92 0 1, 0)) else (if l2 < 0 then (some (jg_u G 92 0 2, 0)) else (if 2 < l2 then (some (jg_u G 92 0 2, 0)) else (if l2 = 0 then (if 0 ≤ l1 ∧ l1 < 4 then some (jg_u G 92 0 0, G 95 l1) else none) else (if l2 = 1 then (if 0 ≤ l1 ∧ l1 < 4 then if G 96 l1 = 0 then (some (jg_u G 92 0 0, 0)) else (some (jg_u G 92 0 0, 1)) else none) else (if 0 ≤ l1 ∧ l1 < 4 then some (jg_u G 92 0 0, G 97 l1) else none))))))
theorem jf216 {d : Nat} {σ0 : ib_H} {Q : ib_O → Prop} {G : jg_G} {l1 : Int} {l2 : Int} (hl1 : jb_r l1) (hl2 : jb_r l2) {r : jg_G × Int} (h : fo216 G l1 l2 = some r) (k : ∀ σ, jg_S σ0 r.1 σ → jb_r r.2 → Q (.inl (some (jb_v r.2)), σ)) : jg_W σ0 G (d + 1) 216 0 [some (.ref 92), some (jb_v l1), some (jb_v l2)] [] Q := by
  intro σ s
  unfold fo216 at h
  refine jaL0 (p := 1) rfl jM216 jq216_0 ?_
  refine jiL1 (p := 2) rfl jM216 jq216_1 ?_
  refine jw_iconst (p := 3) rfl jM216 jq216_2 ?_
  refine jw_iconst (p := 4) rfl jM216 jq216_3 ?_
  refine jw_callS [(jb_v l1), (jb_v 0), (jb_v 3)] jM216 jq216_4 rfl rfl rfl jM147 rfl rfl ?_
  show jb_w d 147 0 [some (jb_v l1), some (jb_v 0), some (jb_v 3)] [] σ (jb_k (d + 1) 216 4 [some (.ref 92), some (jb_v l1), some (jb_v l2)] [(.ref 92)] Q)
  refine jiL0 (p := 1) rfl jM147 jq147_0 ?_
  refine jiL1 (p := 2) rfl jM147 jq147_1 ?_
  refine jw_ic (p := 5) rfl jM147 jq147_2 (jc_lt hl1 (jb_rn rfl)) (fun c1 => ?_) (fun c1 => ?_)
  · have h1 := jo_p c1 h
    refine jw_iconst (p := 15) rfl jM147 jq147_14 ?_
    refine jw_iret jM147 jq147_15 (fun _ => Or.inl rfl) ?_
    show jb_w (d + 1) 216 7 [some (.ref 92), some (jb_v l1), some (jb_v l2)] [(jb_v 0), (.ref 92)] σ Q
    refine jw_if (p := 10) rfl jM216 jq216_7 (jc_ne (jb_rn rfl) jb_r0) (fun z => absurd z (by decide)) (fun _ => ?_)
    refine jw_iconst (p := 11) rfl jM216 jq216_10 ?_
    refine jw_goto jM216 jq216_11 ?_
    refine jg_putI (p := 31) (i := 0) rfl jM216 jq216_28 rfl (jo_92 s.1) (Or.inl jz_11_0) s (by decide) (by decide) (jb_rn rfl) ?_
    intro σ2 s2
    refine jaL0 (p := 32) rfl jM216 jq216_31 ?_
    refine jg_getI (p := 35) (i := 0) rfl jM216 jq216_32 rfl (jo_92 s2.1) jn_11_0 s2 (by decide) (by decide) jg_uH ?_
    refine jw_if (p := 38) rfl jM216 jq216_35 (jc_le (jb_rn rfl) jb_r0) (fun z => absurd z (by decide)) (fun _ => ?_)
    refine jw_iconst (p := 39) rfl jM216 jq216_38 ?_
    cases h1
    exact jw_iret jM216 jq216_39 (fun z => absurd z (by decide)) (k σ2 s2 (jb_rn rfl))
  · have h1 := jo_n c1 h
    refine jiL0 (p := 6) rfl jM147 jq147_5 ?_
    refine jiL2 (p := 7) rfl jM147 jq147_6 ?_
    refine jw_ic (p := 10) rfl jM147 jq147_7 (jc_gt hl1 (jb_rn rfl)) (fun c3 => ?_) (fun c3 => ?_)
    · have h3 := jo_p c3 h1
      refine jw_iconst (p := 15) rfl jM147 jq147_14 ?_
      refine jw_iret jM147 jq147_15 (fun _ => Or.inl rfl) ?_
      show jb_w (d + 1) 216 7 [some (.ref 92), some (jb_v l1), some (jb_v l2)] [(jb_v 0), (.ref 92)] σ Q
      refine jw_if (p := 10) rfl jM216 jq216_7 (jc_ne (jb_rn rfl) jb_r0) (fun z => absurd z (by decide)) (fun _ => ?_)
      refine jw_iconst (p := 11) rfl jM216 jq216_10 ?_
      refine jw_goto jM216 jq216_11 ?_
      refine jg_putI (p := 31) (i := 0) rfl jM216 jq216_28 rfl (jo_92 s.1) (Or.inl jz_11_0) s (by decide) (by decide) (jb_rn rfl) ?_
      intro σ4 s4
      refine jaL0 (p := 32) rfl jM216 jq216_31 ?_
      refine jg_getI (p := 35) (i := 0) rfl jM216 jq216_32 rfl (jo_92 s4.1) jn_11_0 s4 (by decide) (by decide) jg_uH ?_
      refine jw_if (p := 38) rfl jM216 jq216_35 (jc_le (jb_rn rfl) jb_r0) (fun z => absurd z (by decide)) (fun _ => ?_)
      refine jw_iconst (p := 39) rfl jM216 jq216_38 ?_
      cases h3
      exact jw_iret jM216 jq216_39 (fun z => absurd z (by decide)) (k σ4 s4 (jb_rn rfl))
    · have h3 := jo_n c3 h1
      refine jw_iconst (p := 11) rfl jM147 jq147_10 ?_
      refine jw_goto jM147 jq147_11 ?_
      refine jw_iret jM147 jq147_15 (fun _ => Or.inr rfl) ?_
      show jb_w (d + 1) 216 7 [some (.ref 92), some (jb_v l1), some (jb_v l2)] [(jb_v 1), (.ref 92)] σ Q
      refine jw_if (p := 10) rfl jM216 jq216_7 (jc_ne (jb_rn rfl) jb_r0) (fun _ => ?_) (fun z => absurd (by decide) z)
      refine jiL2 (p := 15) rfl jM216 jq216_14 ?_
      refine jw_iconst (p := 16) rfl jM216 jq216_15 ?_
      refine jw_iconst (p := 17) rfl jM216 jq216_16 ?_
      refine jw_callS [(jb_v l2), (jb_v 0), (jb_v 2)] jM216 jq216_17 rfl rfl rfl jM147 rfl rfl ?_
      show jb_w d 147 0 [some (jb_v l2), some (jb_v 0), some (jb_v 2)] [] σ (jb_k (d + 1) 216 17 [some (.ref 92), some (jb_v l1), some (jb_v l2)] [(.ref 92)] Q)
      refine jiL0 (p := 1) rfl jM147 jq147_0 ?_
      refine jiL1 (p := 2) rfl jM147 jq147_1 ?_
      refine jw_ic (p := 5) rfl jM147 jq147_2 (jc_lt hl2 (jb_rn rfl)) (fun c5 => ?_) (fun c5 => ?_)
      · have h5 := jo_p c5 h3
        refine jw_iconst (p := 15) rfl jM147 jq147_14 ?_
        refine jw_iret jM147 jq147_15 (fun _ => Or.inl rfl) ?_
        show jb_w (d + 1) 216 20 [some (.ref 92), some (jb_v l1), some (jb_v l2)] [(jb_v 0), (.ref 92)] σ Q
        refine jw_if (p := 23) rfl jM216 jq216_20 (jc_ne (jb_rn rfl) jb_r0) (fun z => absurd z (by decide)) (fun _ => ?_)
        refine jw_iconst (p := 24) rfl jM216 jq216_23 ?_
        refine jw_goto jM216 jq216_24 ?_
        refine jg_putI (p := 31) (i := 0) rfl jM216 jq216_28 rfl (jo_92 s.1) (Or.inl jz_11_0) s (by decide) (by decide) (jb_rn rfl) ?_
        intro σ6 s6
        refine jaL0 (p := 32) rfl jM216 jq216_31 ?_
        refine jg_getI (p := 35) (i := 0) rfl jM216 jq216_32 rfl (jo_92 s6.1) jn_11_0 s6 (by decide) (by decide) jg_uH ?_
        refine jw_if (p := 38) rfl jM216 jq216_35 (jc_le (jb_rn rfl) jb_r0) (fun z => absurd z (by decide)) (fun _ => ?_)
        refine jw_iconst (p := 39) rfl jM216 jq216_38 ?_
        cases h5
        exact jw_iret jM216 jq216_39 (fun z => absurd z (by decide)) (k σ6 s6 (jb_rn rfl))
      · have h5 := jo_n c5 h3
        refine jiL0 (p := 6) rfl jM147 jq147_5 ?_
        refine jiL2 (p := 7) rfl jM147 jq147_6 ?_
        refine jw_ic (p := 10) rfl jM147 jq147_7 (jc_gt hl2 (jb_rn rfl)) (fun c7 => ?_) (fun c7 => ?_)
        · have h7 := jo_p c7 h5
          refine jw_iconst (p := 15) rfl jM147 jq147_14 ?_
          refine jw_iret jM147 jq147_15 (fun _ => Or.inl rfl) ?_
          show jb_w (d + 1) 216 20 [some (.ref 92), some (jb_v l1), some (jb_v l2)] [(jb_v 0), (.ref 92)] σ Q
          refine jw_if (p := 23) rfl jM216 jq216_20 (jc_ne (jb_rn rfl) jb_r0) (fun z => absurd z (by decide)) (fun _ => ?_)
          refine jw_iconst (p := 24) rfl jM216 jq216_23 ?_
          refine jw_goto jM216 jq216_24 ?_
          refine jg_putI (p := 31) (i := 0) rfl jM216 jq216_28 rfl (jo_92 s.1) (Or.inl jz_11_0) s (by decide) (by decide) (jb_rn rfl) ?_
          intro σ8 s8
          refine jaL0 (p := 32) rfl jM216 jq216_31 ?_
          refine jg_getI (p := 35) (i := 0) rfl jM216 jq216_32 rfl (jo_92 s8.1) jn_11_0 s8 (by decide) (by decide) jg_uH ?_
          refine jw_if (p := 38) rfl jM216 jq216_35 (jc_le (jb_rn rfl) jb_r0) (fun z => absurd z (by decide)) (fun _ => ?_)
          refine jw_iconst (p := 39) rfl jM216 jq216_38 ?_
          cases h7
          exact jw_iret jM216 jq216_39 (fun z => absurd z (by decide)) (k σ8 s8 (jb_rn rfl))
        · have h7 := jo_n c7 h5
          refine jw_iconst (p := 11) rfl jM147 jq147_10 ?_
          refine jw_goto jM147 jq147_11 ?_
          refine jw_iret jM147 jq147_15 (fun _ => Or.inr rfl) ?_
          show jb_w (d + 1) 216 20 [some (.ref 92), some (jb_v l1), some (jb_v l2)] [(jb_v 1), (.ref 92)] σ Q
          refine jw_if (p := 23) rfl jM216 jq216_20 (jc_ne (jb_rn rfl) jb_r0) (fun _ => ?_) (fun z => absurd (by decide) z)
          refine jw_iconst (p := 28) rfl jM216 jq216_27 ?_
          refine jg_putI (p := 31) (i := 0) rfl jM216 jq216_28 rfl (jo_92 s.1) (Or.inl jz_11_0) s (by decide) (by decide) (jb_rn rfl) ?_
          intro σ9 s9
          refine jaL0 (p := 32) rfl jM216 jq216_31 ?_
          refine jg_getI (p := 35) (i := 0) rfl jM216 jq216_32 rfl (jo_92 s9.1) jn_11_0 s9 (by decide) (by decide) jg_uH ?_
          refine jw_if (p := 38) rfl jM216 jq216_35 (jc_le (jb_rn rfl) jb_r0) (fun _ => ?_) (fun z => absurd (by decide) z)
          refine jiL2 (p := 41) rfl jM216 jq216_40 ?_
          refine jw_if (p := 44) rfl jM216 jq216_41 (jc_ne hl2 jb_r0) (fun c10 => ?_) (fun c10 => ?_)
          · have h10 := jo_n c10 h7
            refine jiL2 (p := 54) rfl jM216 jq216_53 ?_
            refine jw_iconst (p := 55) rfl jM216 jq216_54 ?_
            refine jw_ic (p := 58) rfl jM216 jq216_55 (jc_ne hl2 (jb_rn rfl)) (fun c11 => ?_) (fun c11 => ?_)
            · have h11 := jo_n c11 h10
              refine jaL0 (p := 76) rfl jM216 jq216_75 ?_
              refine jw_getP (p := 79) (i := 11) (q := 97) rfl jM216 jq216_76 rfl (jo_92 s9.1) je_11_11 (jp_92_11 s9.1) ?_
              refine jiL1 (p := 80) rfl jM216 jq216_79 ?_
              obtain ⟨c12, h12⟩ := jo_i h11
              refine jg_iald (p := 81) rfl jM216 jq216_80 (ja_97 s9.1) c12.1 c12.2 s9 (by decide) (jg_uN (by decide)) ?_
              cases h12
              exact jw_iret jM216 jq216_81 (fun z => absurd z (by decide)) (k σ9 s9 (s.r _ _))
            · have h11 := jo_p (Decidable.byContradiction c11) h10
              refine jaL0 (p := 59) rfl jM216 jq216_58 ?_
              refine jw_getP (p := 62) (i := 10) (q := 96) rfl jM216 jq216_59 rfl (jo_92 s9.1) je_11_10 (jp_92_10 s9.1) ?_
              refine jiL1 (p := 63) rfl jM216 jq216_62 ?_
              obtain ⟨c13, h13⟩ := jo_i h11
              refine jg_bald (p := 64) rfl jM216 jq216_63 (ja_96 s9.1) c13.1 c13.2 s9 (by decide) (jg_uN (by decide)) ?_
              refine jw_if (p := 67) rfl jM216 jq216_64 (jc_eq (s.r _ _) jb_r0) (fun c14 => ?_) (fun c14 => ?_)
              · have h14 := jo_p c14 h13
                refine jw_iconst (p := 72) rfl jM216 jq216_71 ?_
                refine jw_goto jM216 jq216_72 ?_
                cases h14
                exact jw_iret jM216 jq216_81 (fun z => absurd z (by decide)) (k σ9 s9 (jb_rn rfl))
              · have h14 := jo_n c14 h13
                refine jw_iconst (p := 68) rfl jM216 jq216_67 ?_
                refine jw_goto jM216 jq216_68 ?_
                cases h14
                exact jw_iret jM216 jq216_81 (fun z => absurd z (by decide)) (k σ9 s9 (jb_rn rfl))
          · have h10 := jo_p (Decidable.byContradiction c10) h7
            refine jaL0 (p := 45) rfl jM216 jq216_44 ?_
            refine jw_getP (p := 48) (i := 9) (q := 95) rfl jM216 jq216_45 rfl (jo_92 s9.1) je_11_9 (jp_92_9 s9.1) ?_
            refine jiL1 (p := 49) rfl jM216 jq216_48 ?_
            obtain ⟨c15, h15⟩ := jo_i h10
            refine jg_iald (p := 50) rfl jM216 jq216_49 (ja_95 s9.1) c15.1 c15.2 s9 (by decide) (jg_uN (by decide)) ?_
            refine jw_goto jM216 jq216_50 ?_
            cases h15
            exact jw_iret jM216 jq216_81 (fun z => absurd z (by decide)) (k σ9 s9 (s.r _ _))
-- 217 hand need 0
def fo217 (G : jg_G) : Option (jg_G × Int) := some (jg_u G 92 0 0, G 92 8)
theorem jf217 {d : Nat} {σ0 : ib_H} {Q : ib_O → Prop} {G : jg_G} {r : jg_G × Int} (h : fo217 G  = some r) (k : ∀ σ, jg_S σ0 r.1 σ → jb_r r.2 → Q (.inl (some (jb_v r.2)), σ)) : jg_W σ0 G d 217 0 [some (.ref 92)] [] Q := by
  intro σ s
  unfold fo217 at h
  refine jaL0 (p := 1) rfl jM217 jq217_0 ?_
  refine jw_iconst (p := 2) rfl jM217 jq217_1 ?_
  refine jg_putI (p := 5) (i := 0) rfl jM217 jq217_2 rfl (jo_92 s.1) (Or.inl jz_11_0) s (by decide) (by decide) (jb_rn rfl) ?_
  intro σ1 s1
  refine jaL0 (p := 6) rfl jM217 jq217_5 ?_
  refine jg_getI (p := 9) (i := 8) rfl jM217 jq217_6 rfl (jo_92 s1.1) jn_11_8 s1 (by decide) (by decide) (jg_uI (by decide)) ?_
  cases h
  exact jw_iret jM217 jq217_9 (fun z => absurd z (by decide)) (k σ1 s1 (s.r _ _))
-- 218 record need 1
def fo218 (G : jg_G) (l1 : Int) (l2 : Int) : Option (jg_G × Int) := if l1 < 1 then (some (jg_u G 92 0 1, 0)) else (if G 92 12 < l1 then (some (jg_u G 92 0 1, 0)) else (if l2 < 0 then (some (jg_u G 92 0 2, 0)) else (if 4 < l2 then (some (jg_u G 92 0 2, 0)) else (if l2 = 0 then (if 0 ≤ l1 ∧ l1 < 1501 then some (jg_u G 92 0 0, G 98 l1) else none) else (if l2 = 1 then (if 0 ≤ l1 ∧ l1 < 1501 then some (jg_u G 92 0 0, G 99 l1) else none) else (if l2 = 2 then (if 0 ≤ l1 ∧ l1 < 1501 then some (jg_u G 92 0 0, G 101 l1) else none) else (if l2 = 3 then (if 0 ≤ l1 ∧ l1 < 1501 then some (jg_u G 92 0 0, G 104 l1) else none) else (if 0 ≤ l1 ∧ l1 < 1501 then some (jg_u G 92 0 0, G 105 l1) else none))))))))
theorem jf218 {d : Nat} {σ0 : ib_H} {Q : ib_O → Prop} {G : jg_G} {l1 : Int} {l2 : Int} (hl1 : jb_r l1) (hl2 : jb_r l2) {r : jg_G × Int} (h : fo218 G l1 l2 = some r) (k : ∀ σ, jg_S σ0 r.1 σ → jb_r r.2 → Q (.inl (some (jb_v r.2)), σ)) : jg_W σ0 G (d + 1) 218 0 [some (.ref 92), some (jb_v l1), some (jb_v l2)] [] Q := by
  intro σ s
  unfold fo218 at h
  refine jaL0 (p := 1) rfl jM218 jq218_0 ?_
  refine jiL1 (p := 2) rfl jM218 jq218_1 ?_
  refine jw_iconst (p := 3) rfl jM218 jq218_2 ?_
  refine jaL0 (p := 4) rfl jM218 jq218_3 ?_
  refine jg_getI (p := 7) (i := 12) rfl jM218 jq218_4 rfl (jo_92 s.1) jn_11_12 s (by decide) (by decide) rfl ?_
  refine jw_callS [(jb_v l1), (jb_v 1), (jb_v (G 92 12))] jM218 jq218_7 rfl rfl rfl jM147 rfl rfl ?_
  show jb_w d 147 0 [some (jb_v l1), some (jb_v 1), some (jb_v (G 92 12))] [] σ (jb_k (d + 1) 218 7 [some (.ref 92), some (jb_v l1), some (jb_v l2)] [(.ref 92)] Q)
  refine jiL0 (p := 1) rfl jM147 jq147_0 ?_
  refine jiL1 (p := 2) rfl jM147 jq147_1 ?_
  refine jw_ic (p := 5) rfl jM147 jq147_2 (jc_lt hl1 (jb_rn rfl)) (fun c1 => ?_) (fun c1 => ?_)
  · have h1 := jo_p c1 h
    refine jw_iconst (p := 15) rfl jM147 jq147_14 ?_
    refine jw_iret jM147 jq147_15 (fun _ => Or.inl rfl) ?_
    show jb_w (d + 1) 218 10 [some (.ref 92), some (jb_v l1), some (jb_v l2)] [(jb_v 0), (.ref 92)] σ Q
    refine jw_if (p := 13) rfl jM218 jq218_10 (jc_ne (jb_rn rfl) jb_r0) (fun z => absurd z (by decide)) (fun _ => ?_)
    refine jw_iconst (p := 14) rfl jM218 jq218_13 ?_
    refine jw_goto jM218 jq218_14 ?_
    refine jg_putI (p := 34) (i := 0) rfl jM218 jq218_31 rfl (jo_92 s.1) (Or.inl jz_11_0) s (by decide) (by decide) (jb_rn rfl) ?_
    intro σ2 s2
    refine jaL0 (p := 35) rfl jM218 jq218_34 ?_
    refine jg_getI (p := 38) (i := 0) rfl jM218 jq218_35 rfl (jo_92 s2.1) jn_11_0 s2 (by decide) (by decide) jg_uH ?_
    refine jw_if (p := 41) rfl jM218 jq218_38 (jc_le (jb_rn rfl) jb_r0) (fun z => absurd z (by decide)) (fun _ => ?_)
    refine jw_iconst (p := 42) rfl jM218 jq218_41 ?_
    cases h1
    exact jw_iret jM218 jq218_42 (fun z => absurd z (by decide)) (k σ2 s2 (jb_rn rfl))
  · have h1 := jo_n c1 h
    refine jiL0 (p := 6) rfl jM147 jq147_5 ?_
    refine jiL2 (p := 7) rfl jM147 jq147_6 ?_
    refine jw_ic (p := 10) rfl jM147 jq147_7 (jc_gt hl1 (s.r _ _)) (fun c3 => ?_) (fun c3 => ?_)
    · have h3 := jo_p c3 h1
      refine jw_iconst (p := 15) rfl jM147 jq147_14 ?_
      refine jw_iret jM147 jq147_15 (fun _ => Or.inl rfl) ?_
      show jb_w (d + 1) 218 10 [some (.ref 92), some (jb_v l1), some (jb_v l2)] [(jb_v 0), (.ref 92)] σ Q
      refine jw_if (p := 13) rfl jM218 jq218_10 (jc_ne (jb_rn rfl) jb_r0) (fun z => absurd z (by decide)) (fun _ => ?_)
      refine jw_iconst (p := 14) rfl jM218 jq218_13 ?_
      refine jw_goto jM218 jq218_14 ?_
      refine jg_putI (p := 34) (i := 0) rfl jM218 jq218_31 rfl (jo_92 s.1) (Or.inl jz_11_0) s (by decide) (by decide) (jb_rn rfl) ?_
      intro σ4 s4
      refine jaL0 (p := 35) rfl jM218 jq218_34 ?_
      refine jg_getI (p := 38) (i := 0) rfl jM218 jq218_35 rfl (jo_92 s4.1) jn_11_0 s4 (by decide) (by decide) jg_uH ?_
      refine jw_if (p := 41) rfl jM218 jq218_38 (jc_le (jb_rn rfl) jb_r0) (fun z => absurd z (by decide)) (fun _ => ?_)
      refine jw_iconst (p := 42) rfl jM218 jq218_41 ?_
      cases h3
      exact jw_iret jM218 jq218_42 (fun z => absurd z (by decide)) (k σ4 s4 (jb_rn rfl))
    · have h3 := jo_n c3 h1
      refine jw_iconst (p := 11) rfl jM147 jq147_10 ?_
      refine jw_goto jM147 jq147_11 ?_
      refine jw_iret jM147 jq147_15 (fun _ => Or.inr rfl) ?_
      show jb_w (d + 1) 218 10 [some (.ref 92), some (jb_v l1), some (jb_v l2)] [(jb_v 1), (.ref 92)] σ Q
      refine jw_if (p := 13) rfl jM218 jq218_10 (jc_ne (jb_rn rfl) jb_r0) (fun _ => ?_) (fun z => absurd (by decide) z)
      refine jiL2 (p := 18) rfl jM218 jq218_17 ?_
      refine jw_iconst (p := 19) rfl jM218 jq218_18 ?_
      refine jw_iconst (p := 20) rfl jM218 jq218_19 ?_
      refine jw_callS [(jb_v l2), (jb_v 0), (jb_v 4)] jM218 jq218_20 rfl rfl rfl jM147 rfl rfl ?_
      show jb_w d 147 0 [some (jb_v l2), some (jb_v 0), some (jb_v 4)] [] σ (jb_k (d + 1) 218 20 [some (.ref 92), some (jb_v l1), some (jb_v l2)] [(.ref 92)] Q)
      refine jiL0 (p := 1) rfl jM147 jq147_0 ?_
      refine jiL1 (p := 2) rfl jM147 jq147_1 ?_
      refine jw_ic (p := 5) rfl jM147 jq147_2 (jc_lt hl2 (jb_rn rfl)) (fun c5 => ?_) (fun c5 => ?_)
      · have h5 := jo_p c5 h3
        refine jw_iconst (p := 15) rfl jM147 jq147_14 ?_
        refine jw_iret jM147 jq147_15 (fun _ => Or.inl rfl) ?_
        show jb_w (d + 1) 218 23 [some (.ref 92), some (jb_v l1), some (jb_v l2)] [(jb_v 0), (.ref 92)] σ Q
        refine jw_if (p := 26) rfl jM218 jq218_23 (jc_ne (jb_rn rfl) jb_r0) (fun z => absurd z (by decide)) (fun _ => ?_)
        refine jw_iconst (p := 27) rfl jM218 jq218_26 ?_
        refine jw_goto jM218 jq218_27 ?_
        refine jg_putI (p := 34) (i := 0) rfl jM218 jq218_31 rfl (jo_92 s.1) (Or.inl jz_11_0) s (by decide) (by decide) (jb_rn rfl) ?_
        intro σ6 s6
        refine jaL0 (p := 35) rfl jM218 jq218_34 ?_
        refine jg_getI (p := 38) (i := 0) rfl jM218 jq218_35 rfl (jo_92 s6.1) jn_11_0 s6 (by decide) (by decide) jg_uH ?_
        refine jw_if (p := 41) rfl jM218 jq218_38 (jc_le (jb_rn rfl) jb_r0) (fun z => absurd z (by decide)) (fun _ => ?_)
        refine jw_iconst (p := 42) rfl jM218 jq218_41 ?_
        cases h5
        exact jw_iret jM218 jq218_42 (fun z => absurd z (by decide)) (k σ6 s6 (jb_rn rfl))
      · have h5 := jo_n c5 h3
        refine jiL0 (p := 6) rfl jM147 jq147_5 ?_
        refine jiL2 (p := 7) rfl jM147 jq147_6 ?_
        refine jw_ic (p := 10) rfl jM147 jq147_7 (jc_gt hl2 (jb_rn rfl)) (fun c7 => ?_) (fun c7 => ?_)
        · have h7 := jo_p c7 h5
          refine jw_iconst (p := 15) rfl jM147 jq147_14 ?_
          refine jw_iret jM147 jq147_15 (fun _ => Or.inl rfl) ?_
          show jb_w (d + 1) 218 23 [some (.ref 92), some (jb_v l1), some (jb_v l2)] [(jb_v 0), (.ref 92)] σ Q
          refine jw_if (p := 26) rfl jM218 jq218_23 (jc_ne (jb_rn rfl) jb_r0) (fun z => absurd z (by decide)) (fun _ => ?_)
          refine jw_iconst (p := 27) rfl jM218 jq218_26 ?_
          refine jw_goto jM218 jq218_27 ?_
          refine jg_putI (p := 34) (i := 0) rfl jM218 jq218_31 rfl (jo_92 s.1) (Or.inl jz_11_0) s (by decide) (by decide) (jb_rn rfl) ?_
          intro σ8 s8
          refine jaL0 (p := 35) rfl jM218 jq218_34 ?_
          refine jg_getI (p := 38) (i := 0) rfl jM218 jq218_35 rfl (jo_92 s8.1) jn_11_0 s8 (by decide) (by decide) jg_uH ?_
          refine jw_if (p := 41) rfl jM218 jq218_38 (jc_le (jb_rn rfl) jb_r0) (fun z => absurd z (by decide)) (fun _ => ?_)
          refine jw_iconst (p := 42) rfl jM218 jq218_41 ?_
          cases h7
          exact jw_iret jM218 jq218_42 (fun z => absurd z (by decide)) (k σ8 s8 (jb_rn rfl))
        · have h7 := jo_n c7 h5
          refine jw_iconst (p := 11) rfl jM147 jq147_10 ?_
          refine jw_goto jM147 jq147_11 ?_
          refine jw_iret jM147 jq147_15 (fun _ => Or.inr rfl) ?_
          show jb_w (d + 1) 218 23 [some (.ref 92), some (jb_v l1), some (jb_v l2)] [(jb_v 1), (.ref 92)] σ Q
          refine jw_if (p := 26) rfl jM218 jq218_23 (jc_ne (jb_rn rfl) jb_r0) (fun _ => ?_) (fun z => absurd (by decide) z)
          refine jw_iconst (p := 31) rfl jM218 jq218_30 ?_
          refine jg_putI (p := 34) (i := 0) rfl jM218 jq218_31 rfl (jo_92 s.1) (Or.inl jz_11_0) s (by decide) (by decide) (jb_rn rfl) ?_
          intro σ9 s9
          refine jaL0 (p := 35) rfl jM218 jq218_34 ?_
          refine jg_getI (p := 38) (i := 0) rfl jM218 jq218_35 rfl (jo_92 s9.1) jn_11_0 s9 (by decide) (by decide) jg_uH ?_
          refine jw_if (p := 41) rfl jM218 jq218_38 (jc_le (jb_rn rfl) jb_r0) (fun _ => ?_) (fun z => absurd (by decide) z)
          refine jiL2 (p := 44) rfl jM218 jq218_43 ?_
          refine jw_if (p := 47) rfl jM218 jq218_44 (jc_ne hl2 jb_r0) (fun c10 => ?_) (fun c10 => ?_)
          · have h10 := jo_n c10 h7
            refine jiL2 (p := 57) rfl jM218 jq218_56 ?_
            refine jw_iconst (p := 58) rfl jM218 jq218_57 ?_
            refine jw_ic (p := 61) rfl jM218 jq218_58 (jc_ne hl2 (jb_rn rfl)) (fun c11 => ?_) (fun c11 => ?_)
            · have h11 := jo_n c11 h10
              refine jiL2 (p := 71) rfl jM218 jq218_70 ?_
              refine jw_iconst (p := 72) rfl jM218 jq218_71 ?_
              refine jw_ic (p := 75) rfl jM218 jq218_72 (jc_ne hl2 (jb_rn rfl)) (fun c12 => ?_) (fun c12 => ?_)
              · have h12 := jo_n c12 h11
                refine jiL2 (p := 85) rfl jM218 jq218_84 ?_
                refine jw_iconst (p := 86) rfl jM218 jq218_85 ?_
                refine jw_ic (p := 89) rfl jM218 jq218_86 (jc_ne hl2 (jb_rn rfl)) (fun c13 => ?_) (fun c13 => ?_)
                · have h13 := jo_n c13 h12
                  refine jaL0 (p := 99) rfl jM218 jq218_98 ?_
                  refine jw_getP (p := 102) (i := 21) (q := 105) rfl jM218 jq218_99 rfl (jo_92 s9.1) je_11_21 (jp_92_21 s9.1) ?_
                  refine jiL1 (p := 103) rfl jM218 jq218_102 ?_
                  obtain ⟨c14, h14⟩ := jo_i h13
                  refine jg_iald (p := 104) rfl jM218 jq218_103 (ja_105 s9.1) c14.1 c14.2 s9 (by decide) (jg_uN (by decide)) ?_
                  cases h14
                  exact jw_iret jM218 jq218_104 (fun z => absurd z (by decide)) (k σ9 s9 (s.r _ _))
                · have h13 := jo_p (Decidable.byContradiction c13) h12
                  refine jaL0 (p := 90) rfl jM218 jq218_89 ?_
                  refine jw_getP (p := 93) (i := 20) (q := 104) rfl jM218 jq218_90 rfl (jo_92 s9.1) je_11_20 (jp_92_20 s9.1) ?_
                  refine jiL1 (p := 94) rfl jM218 jq218_93 ?_
                  obtain ⟨c15, h15⟩ := jo_i h13
                  refine jg_iald (p := 95) rfl jM218 jq218_94 (ja_104 s9.1) c15.1 c15.2 s9 (by decide) (jg_uN (by decide)) ?_
                  refine jw_goto jM218 jq218_95 ?_
                  cases h15
                  exact jw_iret jM218 jq218_104 (fun z => absurd z (by decide)) (k σ9 s9 (s.r _ _))
              · have h12 := jo_p (Decidable.byContradiction c12) h11
                refine jaL0 (p := 76) rfl jM218 jq218_75 ?_
                refine jw_getP (p := 79) (i := 17) (q := 101) rfl jM218 jq218_76 rfl (jo_92 s9.1) je_11_17 (jp_92_17 s9.1) ?_
                refine jiL1 (p := 80) rfl jM218 jq218_79 ?_
                obtain ⟨c16, h16⟩ := jo_i h12
                refine jg_iald (p := 81) rfl jM218 jq218_80 (ja_101 s9.1) c16.1 c16.2 s9 (by decide) (jg_uN (by decide)) ?_
                refine jw_goto jM218 jq218_81 ?_
                cases h16
                exact jw_iret jM218 jq218_104 (fun z => absurd z (by decide)) (k σ9 s9 (s.r _ _))
            · have h11 := jo_p (Decidable.byContradiction c11) h10
              refine jaL0 (p := 62) rfl jM218 jq218_61 ?_
              refine jw_getP (p := 65) (i := 15) (q := 99) rfl jM218 jq218_62 rfl (jo_92 s9.1) je_11_15 (jp_92_15 s9.1) ?_
              refine jiL1 (p := 66) rfl jM218 jq218_65 ?_
              obtain ⟨c17, h17⟩ := jo_i h11
              refine jg_iald (p := 67) rfl jM218 jq218_66 (ja_99 s9.1) c17.1 c17.2 s9 (by decide) (jg_uN (by decide)) ?_
              refine jw_goto jM218 jq218_67 ?_
              cases h17
              exact jw_iret jM218 jq218_104 (fun z => absurd z (by decide)) (k σ9 s9 (s.r _ _))
          · have h10 := jo_p (Decidable.byContradiction c10) h7
            refine jaL0 (p := 48) rfl jM218 jq218_47 ?_
            refine jw_getP (p := 51) (i := 14) (q := 98) rfl jM218 jq218_48 rfl (jo_92 s9.1) je_11_14 (jp_92_14 s9.1) ?_
            refine jiL1 (p := 52) rfl jM218 jq218_51 ?_
            obtain ⟨c18, h18⟩ := jo_i h10
            refine jg_iald (p := 53) rfl jM218 jq218_52 (ja_98 s9.1) c18.1 c18.2 s9 (by decide) (jg_uN (by decide)) ?_
            refine jw_goto jM218 jq218_53 ?_
            cases h18
            exact jw_iret jM218 jq218_104 (fun z => absurd z (by decide)) (k σ9 s9 (s.r _ _))
-- 219 records need 0
def fo219 (G : jg_G) : Option (jg_G × Int) := some (jg_u G 92 0 0, G 92 12)
theorem jf219 {d : Nat} {σ0 : ib_H} {Q : ib_O → Prop} {G : jg_G} {r : jg_G × Int} (h : fo219 G  = some r) (k : ∀ σ, jg_S σ0 r.1 σ → jb_r r.2 → Q (.inl (some (jb_v r.2)), σ)) : jg_W σ0 G d 219 0 [some (.ref 92)] [] Q := by
  intro σ s
  unfold fo219 at h
  refine jaL0 (p := 1) rfl jM219 jq219_0 ?_
  refine jw_iconst (p := 2) rfl jM219 jq219_1 ?_
  refine jg_putI (p := 5) (i := 0) rfl jM219 jq219_2 rfl (jo_92 s.1) (Or.inl jz_11_0) s (by decide) (by decide) (jb_rn rfl) ?_
  intro σ1 s1
  refine jaL0 (p := 6) rfl jM219 jq219_5 ?_
  refine jg_getI (p := 9) (i := 12) rfl jM219 jq219_6 rfl (jo_92 s1.1) jn_11_12 s1 (by decide) (by decide) (jg_uI (by decide)) ?_
  cases h
  exact jw_iret jM219 jq219_9 (fun z => absurd z (by decide)) (k σ1 s1 (s.r _ _))
-- 220 durable need 0
def fo220 (G : jg_G) : Option (jg_G × Int) := some (jg_u G 92 0 0, G 92 13)
theorem jf220 {d : Nat} {σ0 : ib_H} {Q : ib_O → Prop} {G : jg_G} {r : jg_G × Int} (h : fo220 G  = some r) (k : ∀ σ, jg_S σ0 r.1 σ → jb_r r.2 → Q (.inl (some (jb_v r.2)), σ)) : jg_W σ0 G d 220 0 [some (.ref 92)] [] Q := by
  intro σ s
  unfold fo220 at h
  refine jaL0 (p := 1) rfl jM220 jq220_0 ?_
  refine jw_iconst (p := 2) rfl jM220 jq220_1 ?_
  refine jg_putI (p := 5) (i := 0) rfl jM220 jq220_2 rfl (jo_92 s.1) (Or.inl jz_11_0) s (by decide) (by decide) (jb_rn rfl) ?_
  intro σ1 s1
  refine jaL0 (p := 6) rfl jM220 jq220_5 ?_
  refine jg_getI (p := 9) (i := 13) rfl jM220 jq220_6 rfl (jo_92 s1.1) jn_11_13 s1 (by decide) (by decide) (jg_uI (by decide)) ?_
  cases h
  exact jw_iret jM220 jq220_9 (fun z => absurd z (by decide)) (k σ1 s1 (s.r _ _))
-- 221 writes need 0
def fo221 (G : jg_G) : Option (jg_G × Int) := some (jg_u G 92 0 0, G 92 5)
theorem jf221 {d : Nat} {σ0 : ib_H} {Q : ib_O → Prop} {G : jg_G} {r : jg_G × Int} (h : fo221 G  = some r) (k : ∀ σ, jg_S σ0 r.1 σ → jb_r r.2 → Q (.inl (some (jb_v r.2)), σ)) : jg_W σ0 G d 221 0 [some (.ref 92)] [] Q := by
  intro σ s
  unfold fo221 at h
  refine jaL0 (p := 1) rfl jM221 jq221_0 ?_
  refine jw_iconst (p := 2) rfl jM221 jq221_1 ?_
  refine jg_putI (p := 5) (i := 0) rfl jM221 jq221_2 rfl (jo_92 s.1) (Or.inl jz_11_0) s (by decide) (by decide) (jb_rn rfl) ?_
  intro σ1 s1
  refine jaL0 (p := 6) rfl jM221 jq221_5 ?_
  refine jg_getI (p := 9) (i := 5) rfl jM221 jq221_6 rfl (jo_92 s1.1) jn_11_5 s1 (by decide) (by decide) (jg_uI (by decide)) ?_
  cases h
  exact jw_iret jM221 jq221_9 (fun z => absurd z (by decide)) (k σ1 s1 (s.r _ _))
-- 222 holder need 1
def fo222 (G : jg_G) (l1 : Int) : Option (jg_G × Int) := if l1 < 0 then (some (jg_u G 92 0 1, 0)) else (if 31 < l1 then (some (jg_u G 92 0 1, 0)) else (if 0 ≤ l1 ∧ l1 < 32 then some (jg_u G 92 0 0, G 111 l1) else none))
theorem jf222 {d : Nat} {σ0 : ib_H} {Q : ib_O → Prop} {G : jg_G} {l1 : Int} (hl1 : jb_r l1) {r : jg_G × Int} (h : fo222 G l1 = some r) (k : ∀ σ, jg_S σ0 r.1 σ → jb_r r.2 → Q (.inl (some (jb_v r.2)), σ)) : jg_W σ0 G (d + 1) 222 0 [some (.ref 92), some (jb_v l1)] [] Q := by
  intro σ s
  unfold fo222 at h
  refine jaL0 (p := 1) rfl jM222 jq222_0 ?_
  refine jiL1 (p := 2) rfl jM222 jq222_1 ?_
  refine jw_iconst (p := 3) rfl jM222 jq222_2 ?_
  refine jw_bipush (p := 5) rfl jM222 jq222_3 (by decide) ?_
  refine jw_callS [(jb_v l1), (jb_v 0), (jb_v 31)] jM222 jq222_5 rfl rfl rfl jM147 rfl rfl ?_
  show jb_w d 147 0 [some (jb_v l1), some (jb_v 0), some (jb_v 31)] [] σ (jb_k (d + 1) 222 5 [some (.ref 92), some (jb_v l1)] [(.ref 92)] Q)
  refine jiL0 (p := 1) rfl jM147 jq147_0 ?_
  refine jiL1 (p := 2) rfl jM147 jq147_1 ?_
  refine jw_ic (p := 5) rfl jM147 jq147_2 (jc_lt hl1 (jb_rn rfl)) (fun c1 => ?_) (fun c1 => ?_)
  · have h1 := jo_p c1 h
    refine jw_iconst (p := 15) rfl jM147 jq147_14 ?_
    refine jw_iret jM147 jq147_15 (fun _ => Or.inl rfl) ?_
    show jb_w (d + 1) 222 8 [some (.ref 92), some (jb_v l1)] [(jb_v 0), (.ref 92)] σ Q
    refine jw_if (p := 11) rfl jM222 jq222_8 (jc_eq (jb_rn rfl) jb_r0) (fun _ => ?_) (fun z => absurd (by decide) z)
    refine jw_iconst (p := 16) rfl jM222 jq222_15 ?_
    refine jg_putI (p := 19) (i := 0) rfl jM222 jq222_16 rfl (jo_92 s.1) (Or.inl jz_11_0) s (by decide) (by decide) (jb_rn rfl) ?_
    intro σ2 s2
    refine jaL0 (p := 20) rfl jM222 jq222_19 ?_
    refine jg_getI (p := 23) (i := 0) rfl jM222 jq222_20 rfl (jo_92 s2.1) jn_11_0 s2 (by decide) (by decide) jg_uH ?_
    refine jw_if (p := 26) rfl jM222 jq222_23 (jc_le (jb_rn rfl) jb_r0) (fun z => absurd z (by decide)) (fun _ => ?_)
    refine jw_iconst (p := 27) rfl jM222 jq222_26 ?_
    refine jw_goto jM222 jq222_27 ?_
    cases h1
    exact jw_iret jM222 jq222_36 (fun z => absurd z (by decide)) (k σ2 s2 (jb_rn rfl))
  · have h1 := jo_n c1 h
    refine jiL0 (p := 6) rfl jM147 jq147_5 ?_
    refine jiL2 (p := 7) rfl jM147 jq147_6 ?_
    refine jw_ic (p := 10) rfl jM147 jq147_7 (jc_gt hl1 (jb_rn rfl)) (fun c3 => ?_) (fun c3 => ?_)
    · have h3 := jo_p c3 h1
      refine jw_iconst (p := 15) rfl jM147 jq147_14 ?_
      refine jw_iret jM147 jq147_15 (fun _ => Or.inl rfl) ?_
      show jb_w (d + 1) 222 8 [some (.ref 92), some (jb_v l1)] [(jb_v 0), (.ref 92)] σ Q
      refine jw_if (p := 11) rfl jM222 jq222_8 (jc_eq (jb_rn rfl) jb_r0) (fun _ => ?_) (fun z => absurd (by decide) z)
      refine jw_iconst (p := 16) rfl jM222 jq222_15 ?_
      refine jg_putI (p := 19) (i := 0) rfl jM222 jq222_16 rfl (jo_92 s.1) (Or.inl jz_11_0) s (by decide) (by decide) (jb_rn rfl) ?_
      intro σ4 s4
      refine jaL0 (p := 20) rfl jM222 jq222_19 ?_
      refine jg_getI (p := 23) (i := 0) rfl jM222 jq222_20 rfl (jo_92 s4.1) jn_11_0 s4 (by decide) (by decide) jg_uH ?_
      refine jw_if (p := 26) rfl jM222 jq222_23 (jc_le (jb_rn rfl) jb_r0) (fun z => absurd z (by decide)) (fun _ => ?_)
      refine jw_iconst (p := 27) rfl jM222 jq222_26 ?_
      refine jw_goto jM222 jq222_27 ?_
      cases h3
      exact jw_iret jM222 jq222_36 (fun z => absurd z (by decide)) (k σ4 s4 (jb_rn rfl))
    · have h3 := jo_n c3 h1
      refine jw_iconst (p := 11) rfl jM147 jq147_10 ?_
      refine jw_goto jM147 jq147_11 ?_
      refine jw_iret jM147 jq147_15 (fun _ => Or.inr rfl) ?_
      show jb_w (d + 1) 222 8 [some (.ref 92), some (jb_v l1)] [(jb_v 1), (.ref 92)] σ Q
      refine jw_if (p := 11) rfl jM222 jq222_8 (jc_eq (jb_rn rfl) jb_r0) (fun z => absurd z (by decide)) (fun _ => ?_)
      refine jw_iconst (p := 12) rfl jM222 jq222_11 ?_
      refine jw_goto jM222 jq222_12 ?_
      refine jg_putI (p := 19) (i := 0) rfl jM222 jq222_16 rfl (jo_92 s.1) (Or.inl jz_11_0) s (by decide) (by decide) (jb_rn rfl) ?_
      intro σ5 s5
      refine jaL0 (p := 20) rfl jM222 jq222_19 ?_
      refine jg_getI (p := 23) (i := 0) rfl jM222 jq222_20 rfl (jo_92 s5.1) jn_11_0 s5 (by decide) (by decide) jg_uH ?_
      refine jw_if (p := 26) rfl jM222 jq222_23 (jc_le (jb_rn rfl) jb_r0) (fun _ => ?_) (fun z => absurd (by decide) z)
      refine jaL0 (p := 31) rfl jM222 jq222_30 ?_
      refine jw_getP (p := 34) (i := 27) (q := 111) rfl jM222 jq222_31 rfl (jo_92 s5.1) je_11_27 (jp_92_27 s5.1) ?_
      refine jiL1 (p := 35) rfl jM222 jq222_34 ?_
      obtain ⟨c6, h6⟩ := jo_i h3
      refine jg_iald (p := 36) rfl jM222 jq222_35 (ja_111 s5.1) c6.1 c6.2 s5 (by decide) (jg_uN (by decide)) ?_
      cases h6
      exact jw_iret jM222 jq222_36 (fun z => absurd z (by decide)) (k σ5 s5 (s.r _ _))
-- 223 waitsFor need 2
def fo223 (G : jg_G) (l1 : Int) : Option (jg_G × Int) := if l1 < 0 then (some (jg_u G 92 0 1, 0)) else (if 3 < l1 then (some (jg_u G 92 0 1, 0)) else (if 0 ≤ l1 ∧ l1 < 4 then some (jg_u G 92 0 0, G 110 l1) else none))
theorem jf223 {d : Nat} {σ0 : ib_H} {Q : ib_O → Prop} {G : jg_G} {l1 : Int} (hl1 : jb_r l1) {r : jg_G × Int} (h : fo223 G l1 = some r) (k : ∀ σ, jg_S σ0 r.1 σ → jb_r r.2 → Q (.inl (some (jb_v r.2)), σ)) : jg_W σ0 G (d + 2) 223 0 [some (.ref 92), some (jb_v l1)] [] Q := by
  intro σ s
  unfold fo223 at h
  refine jaL0 (p := 1) rfl jM223 jq223_0 ?_
  refine jiL1 (p := 2) rfl jM223 jq223_1 ?_
  refine jw_callS [(jb_v l1)] jM223 jq223_2 rfl rfl rfl jM184 rfl rfl ?_
  show jb_w (d + 1) 184 0 [some (jb_v l1)] [] σ (jb_k (d + 2) 223 2 [some (.ref 92), some (jb_v l1)] [(.ref 92)] Q)
  refine jiL0 (p := 1) rfl jM184 jq184_0 ?_
  refine jw_iconst (p := 2) rfl jM184 jq184_1 ?_
  refine jw_iconst (p := 3) rfl jM184 jq184_2 ?_
  refine jw_callS [(jb_v l1), (jb_v 0), (jb_v 3)] jM184 jq184_3 rfl rfl rfl jM147 rfl rfl ?_
  show jb_w d 147 0 [some (jb_v l1), some (jb_v 0), some (jb_v 3)] [] σ (jb_k (d + 1) 184 3 [some (jb_v l1)] [] (jb_k (d + 2) 223 2 [some (.ref 92), some (jb_v l1)] [(.ref 92)] Q))
  refine jiL0 (p := 1) rfl jM147 jq147_0 ?_
  refine jiL1 (p := 2) rfl jM147 jq147_1 ?_
  refine jw_ic (p := 5) rfl jM147 jq147_2 (jc_lt hl1 (jb_rn rfl)) (fun c1 => ?_) (fun c1 => ?_)
  · have h1 := jo_p c1 h
    refine jw_iconst (p := 15) rfl jM147 jq147_14 ?_
    refine jw_iret jM147 jq147_15 (fun _ => Or.inl rfl) ?_
    show jb_w (d + 1) 184 6 [some (jb_v l1)] [(jb_v 0)] σ (jb_k (d + 2) 223 2 [some (.ref 92), some (jb_v l1)] [(.ref 92)] Q)
    refine jw_iret jM184 jq184_6 (fun _ => Or.inl rfl) ?_
    show jb_w (d + 2) 223 5 [some (.ref 92), some (jb_v l1)] [(jb_v 0), (.ref 92)] σ Q
    refine jw_if (p := 8) rfl jM223 jq223_5 (jc_eq (jb_rn rfl) jb_r0) (fun _ => ?_) (fun z => absurd (by decide) z)
    refine jw_iconst (p := 13) rfl jM223 jq223_12 ?_
    refine jg_putI (p := 16) (i := 0) rfl jM223 jq223_13 rfl (jo_92 s.1) (Or.inl jz_11_0) s (by decide) (by decide) (jb_rn rfl) ?_
    intro σ2 s2
    refine jaL0 (p := 17) rfl jM223 jq223_16 ?_
    refine jg_getI (p := 20) (i := 0) rfl jM223 jq223_17 rfl (jo_92 s2.1) jn_11_0 s2 (by decide) (by decide) jg_uH ?_
    refine jw_if (p := 23) rfl jM223 jq223_20 (jc_le (jb_rn rfl) jb_r0) (fun z => absurd z (by decide)) (fun _ => ?_)
    refine jw_iconst (p := 24) rfl jM223 jq223_23 ?_
    refine jw_goto jM223 jq223_24 ?_
    cases h1
    exact jw_iret jM223 jq223_33 (fun z => absurd z (by decide)) (k σ2 s2 (jb_rn rfl))
  · have h1 := jo_n c1 h
    refine jiL0 (p := 6) rfl jM147 jq147_5 ?_
    refine jiL2 (p := 7) rfl jM147 jq147_6 ?_
    refine jw_ic (p := 10) rfl jM147 jq147_7 (jc_gt hl1 (jb_rn rfl)) (fun c3 => ?_) (fun c3 => ?_)
    · have h3 := jo_p c3 h1
      refine jw_iconst (p := 15) rfl jM147 jq147_14 ?_
      refine jw_iret jM147 jq147_15 (fun _ => Or.inl rfl) ?_
      show jb_w (d + 1) 184 6 [some (jb_v l1)] [(jb_v 0)] σ (jb_k (d + 2) 223 2 [some (.ref 92), some (jb_v l1)] [(.ref 92)] Q)
      refine jw_iret jM184 jq184_6 (fun _ => Or.inl rfl) ?_
      show jb_w (d + 2) 223 5 [some (.ref 92), some (jb_v l1)] [(jb_v 0), (.ref 92)] σ Q
      refine jw_if (p := 8) rfl jM223 jq223_5 (jc_eq (jb_rn rfl) jb_r0) (fun _ => ?_) (fun z => absurd (by decide) z)
      refine jw_iconst (p := 13) rfl jM223 jq223_12 ?_
      refine jg_putI (p := 16) (i := 0) rfl jM223 jq223_13 rfl (jo_92 s.1) (Or.inl jz_11_0) s (by decide) (by decide) (jb_rn rfl) ?_
      intro σ4 s4
      refine jaL0 (p := 17) rfl jM223 jq223_16 ?_
      refine jg_getI (p := 20) (i := 0) rfl jM223 jq223_17 rfl (jo_92 s4.1) jn_11_0 s4 (by decide) (by decide) jg_uH ?_
      refine jw_if (p := 23) rfl jM223 jq223_20 (jc_le (jb_rn rfl) jb_r0) (fun z => absurd z (by decide)) (fun _ => ?_)
      refine jw_iconst (p := 24) rfl jM223 jq223_23 ?_
      refine jw_goto jM223 jq223_24 ?_
      cases h3
      exact jw_iret jM223 jq223_33 (fun z => absurd z (by decide)) (k σ4 s4 (jb_rn rfl))
    · have h3 := jo_n c3 h1
      refine jw_iconst (p := 11) rfl jM147 jq147_10 ?_
      refine jw_goto jM147 jq147_11 ?_
      refine jw_iret jM147 jq147_15 (fun _ => Or.inr rfl) ?_
      show jb_w (d + 1) 184 6 [some (jb_v l1)] [(jb_v 1)] σ (jb_k (d + 2) 223 2 [some (.ref 92), some (jb_v l1)] [(.ref 92)] Q)
      refine jw_iret jM184 jq184_6 (fun _ => Or.inr rfl) ?_
      show jb_w (d + 2) 223 5 [some (.ref 92), some (jb_v l1)] [(jb_v 1), (.ref 92)] σ Q
      refine jw_if (p := 8) rfl jM223 jq223_5 (jc_eq (jb_rn rfl) jb_r0) (fun z => absurd z (by decide)) (fun _ => ?_)
      refine jw_iconst (p := 9) rfl jM223 jq223_8 ?_
      refine jw_goto jM223 jq223_9 ?_
      refine jg_putI (p := 16) (i := 0) rfl jM223 jq223_13 rfl (jo_92 s.1) (Or.inl jz_11_0) s (by decide) (by decide) (jb_rn rfl) ?_
      intro σ5 s5
      refine jaL0 (p := 17) rfl jM223 jq223_16 ?_
      refine jg_getI (p := 20) (i := 0) rfl jM223 jq223_17 rfl (jo_92 s5.1) jn_11_0 s5 (by decide) (by decide) jg_uH ?_
      refine jw_if (p := 23) rfl jM223 jq223_20 (jc_le (jb_rn rfl) jb_r0) (fun _ => ?_) (fun z => absurd (by decide) z)
      refine jaL0 (p := 28) rfl jM223 jq223_27 ?_
      refine jw_getP (p := 31) (i := 26) (q := 110) rfl jM223 jq223_28 rfl (jo_92 s5.1) je_11_26 (jp_92_26 s5.1) ?_
      refine jiL1 (p := 32) rfl jM223 jq223_31 ?_
      obtain ⟨c6, h6⟩ := jo_i h3
      refine jg_iald (p := 33) rfl jM223 jq223_32 (ja_110 s5.1) c6.1 c6.2 s5 (by decide) (jg_uN (by decide)) ?_
      cases h6
      exact jw_iret jM223 jq223_33 (fun z => absurd z (by decide)) (k σ5 s5 (s.r _ _))
-- 224 plainly need 0
def fo224_25 : Nat → jg_G → Int → Int → Int → Option (jg_G × Int)
  | 0, _, _, _, _ => none
  | m + 1, G, l1, l2, l3 => if G 92 13 < l3 then (some (G, l2)) else (if 0 ≤ l3 ∧ l3 < 1501 then if G 99 l3 = (-1) then (if G 98 l3 = 2 then (if 0 ≤ (G 99 l3) ∧ (G 99 l3) < 4 then if G 116 (G 99 l3) = (-2) then (if -2147483648 ≤ (l3 + 1) ∧ (l3 + 1) < 2147483648 then fo224_25 m (jg_u G 116 (G 99 l3) (-2)) l1 l2 (l3 + 1) else none) else (if -2147483648 ≤ (l3 + 1) ∧ (l3 + 1) < 2147483648 then fo224_25 m (jg_u G 116 (G 99 l3) (-2)) l1 (G 116 (G 99 l3)) (l3 + 1) else none) else none) else (if G 98 l3 = 3 then (if 0 ≤ (G 99 l3) ∧ (G 99 l3) < 4 then if -2147483648 ≤ (l3 + 1) ∧ (l3 + 1) < 2147483648 then fo224_25 m (jg_u G 116 (G 99 l3) (-2)) l1 l2 (l3 + 1) else none else none) else (if -2147483648 ≤ (l3 + 1) ∧ (l3 + 1) < 2147483648 then fo224_25 m G l1 l2 (l3 + 1) else none))) else (if G 101 l3 = l1 then (if 0 ≤ (G 99 l3) ∧ (G 99 l3) < 4 then if G 98 l3 = 2 then (if G 103 l3 = (-2) then (if -2147483648 ≤ (l3 + 1) ∧ (l3 + 1) < 2147483648 then fo224_25 m (jg_u (jg_u G 116 (G 99 l3) (G 103 l3)) 116 (G 99 l3) (-2)) l1 l2 (l3 + 1) else none) else (if -2147483648 ≤ (l3 + 1) ∧ (l3 + 1) < 2147483648 then fo224_25 m (jg_u (jg_u G 116 (G 99 l3) (G 103 l3)) 116 (G 99 l3) (-2)) l1 (G 103 l3) (l3 + 1) else none)) else (if G 98 l3 = 3 then (if -2147483648 ≤ (l3 + 1) ∧ (l3 + 1) < 2147483648 then fo224_25 m (jg_u (jg_u G 116 (G 99 l3) (G 103 l3)) 116 (G 99 l3) (-2)) l1 l2 (l3 + 1) else none) else (if -2147483648 ≤ (l3 + 1) ∧ (l3 + 1) < 2147483648 then fo224_25 m (jg_u G 116 (G 99 l3) (G 103 l3)) l1 l2 (l3 + 1) else none)) else none) else (if G 98 l3 = 2 then (if 0 ≤ (G 99 l3) ∧ (G 99 l3) < 4 then if G 116 (G 99 l3) = (-2) then (if -2147483648 ≤ (l3 + 1) ∧ (l3 + 1) < 2147483648 then fo224_25 m (jg_u G 116 (G 99 l3) (-2)) l1 l2 (l3 + 1) else none) else (if -2147483648 ≤ (l3 + 1) ∧ (l3 + 1) < 2147483648 then fo224_25 m (jg_u G 116 (G 99 l3) (-2)) l1 (G 116 (G 99 l3)) (l3 + 1) else none) else none) else (if G 98 l3 = 3 then (if 0 ≤ (G 99 l3) ∧ (G 99 l3) < 4 then if -2147483648 ≤ (l3 + 1) ∧ (l3 + 1) < 2147483648 then fo224_25 m (jg_u G 116 (G 99 l3) (-2)) l1 l2 (l3 + 1) else none else none) else (if -2147483648 ≤ (l3 + 1) ∧ (l3 + 1) < 2147483648 then fo224_25 m G l1 l2 (l3 + 1) else none)))) else none)
theorem jf224_25 {d : Nat} {σ0 : ib_H} {Q : ib_O → Prop} : ∀ (m : Nat) {G : jg_G} {l1 : Int} {l2 : Int} {l3 : Int} {o4 : Option Value} (hl1 : jb_r l1) (hl2 : jb_r l2) (hl3 : jb_r l3) {r : jg_G × Int} (h : fo224_25 m G l1 l2 l3 = some r) (k : ∀ σ, jg_S σ0 r.1 σ → jb_r r.2 → Q (.inl (some (jb_v r.2)), σ)), jg_W σ0 G d 224 25 [some (.ref 92), some (jb_v l1), some (jb_v l2), some (jb_v l3), o4] [] Q := by
  intro m
  induction m with
  | zero =>
    intro G l1 l2 l3 o4 hl1 hl2 hl3 r h k
    cases h
  | succ m ih =>
    intro G l1 l2 l3 o4 hl1 hl2 hl3 r h k σ s
    unfold fo224_25 at h
    refine jiL3 (p := 26) rfl jM224 jq224_25 ?_
    refine jaL0 (p := 27) rfl jM224 jq224_26 ?_
    refine jg_getI (p := 30) (i := 13) rfl jM224 jq224_27 rfl (jo_92 s.1) jn_11_13 s (by decide) (by decide) rfl ?_
    refine jw_ic (p := 33) rfl jM224 jq224_30 (jc_gt hl3 (s.r _ _)) (fun c1 => ?_) (fun c1 => ?_)
    · have h1 := jo_p c1 h
      refine jiL2 (p := 140) rfl jM224 jq224_139 ?_
      cases h1
      exact jw_iret jM224 jq224_140 (fun z => absurd z (by decide)) (k σ s hl2)
    · have h1 := jo_n c1 h
      refine jaL0 (p := 34) rfl jM224 jq224_33 ?_
      refine jw_getP (p := 37) (i := 15) (q := 99) rfl jM224 jq224_34 rfl (jo_92 s.1) je_11_15 (jp_92_15 s.1) ?_
      refine jiL3 (p := 38) rfl jM224 jq224_37 ?_
      obtain ⟨c2, h2⟩ := jo_i h1
      refine jg_iald (p := 39) rfl jM224 jq224_38 (ja_99 s.1) c2.1 c2.2 s (by decide) rfl ?_
      refine jiS4 (p := 41) rfl jM224 jq224_39 ?_
      refine jiL4 (p := 43) rfl jM224 jq224_41 ?_
      refine jw_iconst (p := 44) rfl jM224 jq224_43 ?_
      refine jw_ic (p := 47) rfl jM224 jq224_44 (jc_eq (s.r _ _) (jb_rn rfl)) (fun c3 => ?_) (fun c3 => ?_)
      · have h3 := jo_p c3 h2
        refine jaL0 (p := 71) rfl jM224 jq224_70 ?_
        refine jw_getP (p := 74) (i := 14) (q := 98) rfl jM224 jq224_71 rfl (jo_92 s.1) je_11_14 (jp_92_14 s.1) ?_
        refine jiL3 (p := 75) rfl jM224 jq224_74 ?_
        refine jg_iald (p := 76) rfl jM224 jq224_75 (ja_98 s.1) c2.1 c2.2 s (by decide) rfl ?_
        refine jw_iconst (p := 77) rfl jM224 jq224_76 ?_
        refine jw_ic (p := 80) rfl jM224 jq224_77 (jc_eq (s.r _ _) (jb_rn rfl)) (fun c4 => ?_) (fun c4 => ?_)
        · have h4 := jo_p c4 h3
          refine jaL0 (p := 91) rfl jM224 jq224_90 ?_
          refine jw_getP (p := 94) (i := 14) (q := 98) rfl jM224 jq224_91 rfl (jo_92 s.1) je_11_14 (jp_92_14 s.1) ?_
          refine jiL3 (p := 95) rfl jM224 jq224_94 ?_
          refine jg_iald (p := 96) rfl jM224 jq224_95 (ja_98 s.1) c2.1 c2.2 s (by decide) rfl ?_
          refine jw_iconst (p := 97) rfl jM224 jq224_96 ?_
          refine jw_ic (p := 100) rfl jM224 jq224_97 (jc_ne (s.r _ _) (jb_rn rfl)) (fun z => absurd c4 z) (fun _ => ?_)
          refine jaL0 (p := 101) rfl jM224 jq224_100 ?_
          refine jw_getP (p := 104) (i := 33) (q := 116) rfl jM224 jq224_101 rfl (jo_92 s.1) je_11_33 (jp_92_33 s.1) ?_
          refine jiL4 (p := 106) rfl jM224 jq224_104 ?_
          obtain ⟨c5, h5⟩ := jo_i h4
          refine jg_iald (p := 107) rfl jM224 jq224_106 (ja_116 s.1) c5.1 c5.2 s (by decide) rfl ?_
          refine jw_bipush (p := 109) rfl jM224 jq224_107 (by decide) ?_
          refine jw_ic (p := 112) rfl jM224 jq224_109 (jc_eq (s.r _ _) (jb_rn rfl)) (fun c6 => ?_) (fun c6 => ?_)
          · have h6 := jo_p c6 h5
            refine jiL2 (p := 123) rfl jM224 jq224_122 ?_
            refine jiS2 (p := 124) rfl jM224 jq224_123 ?_
            refine jaL0 (p := 125) rfl jM224 jq224_124 ?_
            refine jw_getP (p := 128) (i := 33) (q := 116) rfl jM224 jq224_125 rfl (jo_92 s.1) je_11_33 (jp_92_33 s.1) ?_
            refine jiL4 (p := 130) rfl jM224 jq224_128 ?_
            refine jw_bipush (p := 132) rfl jM224 jq224_130 (by decide) ?_
            refine jg_iast (p := 133) rfl jM224 jq224_132 (ja_116 s.1) c5.1 c5.2 s (by decide) (jb_rn rfl) ?_
            intro σ7 s7
            refine jiI3 (p := 136) rfl jM224 jq224_133 ?_
            refine jw_goto jM224 jq224_136 ?_
            obtain ⟨c8, h8⟩ := jo_i h6
            exact ih hl1 hl2 c8 h8 k σ7 s7
          · have h6 := jo_n c6 h5
            refine jaL0 (p := 113) rfl jM224 jq224_112 ?_
            refine jw_getP (p := 116) (i := 33) (q := 116) rfl jM224 jq224_113 rfl (jo_92 s.1) je_11_33 (jp_92_33 s.1) ?_
            refine jiL4 (p := 118) rfl jM224 jq224_116 ?_
            refine jg_iald (p := 119) rfl jM224 jq224_118 (ja_116 s.1) c5.1 c5.2 s (by decide) rfl ?_
            refine jw_goto jM224 jq224_119 ?_
            refine jiS2 (p := 124) rfl jM224 jq224_123 ?_
            refine jaL0 (p := 125) rfl jM224 jq224_124 ?_
            refine jw_getP (p := 128) (i := 33) (q := 116) rfl jM224 jq224_125 rfl (jo_92 s.1) je_11_33 (jp_92_33 s.1) ?_
            refine jiL4 (p := 130) rfl jM224 jq224_128 ?_
            refine jw_bipush (p := 132) rfl jM224 jq224_130 (by decide) ?_
            refine jg_iast (p := 133) rfl jM224 jq224_132 (ja_116 s.1) c5.1 c5.2 s (by decide) (jb_rn rfl) ?_
            intro σ9 s9
            refine jiI3 (p := 136) rfl jM224 jq224_133 ?_
            refine jw_goto jM224 jq224_136 ?_
            obtain ⟨c10, h10⟩ := jo_i h6
            exact ih hl1 (s.r _ _) c10 h10 k σ9 s9
        · have h4 := jo_n c4 h3
          refine jaL0 (p := 81) rfl jM224 jq224_80 ?_
          refine jw_getP (p := 84) (i := 14) (q := 98) rfl jM224 jq224_81 rfl (jo_92 s.1) je_11_14 (jp_92_14 s.1) ?_
          refine jiL3 (p := 85) rfl jM224 jq224_84 ?_
          refine jg_iald (p := 86) rfl jM224 jq224_85 (ja_98 s.1) c2.1 c2.2 s (by decide) rfl ?_
          refine jw_iconst (p := 87) rfl jM224 jq224_86 ?_
          refine jw_ic (p := 90) rfl jM224 jq224_87 (jc_ne (s.r _ _) (jb_rn rfl)) (fun c11 => ?_) (fun c11 => ?_)
          · have h11 := jo_n c11 h4
            refine jiI3 (p := 136) rfl jM224 jq224_133 ?_
            refine jw_goto jM224 jq224_136 ?_
            obtain ⟨c12, h12⟩ := jo_i h11
            exact ih hl1 hl2 c12 h12 k σ s
          · have h11 := jo_p (Decidable.byContradiction c11) h4
            refine jaL0 (p := 91) rfl jM224 jq224_90 ?_
            refine jw_getP (p := 94) (i := 14) (q := 98) rfl jM224 jq224_91 rfl (jo_92 s.1) je_11_14 (jp_92_14 s.1) ?_
            refine jiL3 (p := 95) rfl jM224 jq224_94 ?_
            refine jg_iald (p := 96) rfl jM224 jq224_95 (ja_98 s.1) c2.1 c2.2 s (by decide) rfl ?_
            refine jw_iconst (p := 97) rfl jM224 jq224_96 ?_
            refine jw_ic (p := 100) rfl jM224 jq224_97 (jc_ne (s.r _ _) (jb_rn rfl)) (fun _ => ?_) (fun z => absurd c4 z)
            refine jiL2 (p := 123) rfl jM224 jq224_122 ?_
            refine jiS2 (p := 124) rfl jM224 jq224_123 ?_
            refine jaL0 (p := 125) rfl jM224 jq224_124 ?_
            refine jw_getP (p := 128) (i := 33) (q := 116) rfl jM224 jq224_125 rfl (jo_92 s.1) je_11_33 (jp_92_33 s.1) ?_
            refine jiL4 (p := 130) rfl jM224 jq224_128 ?_
            refine jw_bipush (p := 132) rfl jM224 jq224_130 (by decide) ?_
            obtain ⟨c13, h13⟩ := jo_i h11
            refine jg_iast (p := 133) rfl jM224 jq224_132 (ja_116 s.1) c13.1 c13.2 s (by decide) (jb_rn rfl) ?_
            intro σ14 s14
            refine jiI3 (p := 136) rfl jM224 jq224_133 ?_
            refine jw_goto jM224 jq224_136 ?_
            obtain ⟨c15, h15⟩ := jo_i h13
            exact ih hl1 hl2 c15 h15 k σ14 s14
      · have h3 := jo_n c3 h2
        refine jaL0 (p := 48) rfl jM224 jq224_47 ?_
        refine jw_getP (p := 51) (i := 17) (q := 101) rfl jM224 jq224_48 rfl (jo_92 s.1) je_11_17 (jp_92_17 s.1) ?_
        refine jiL3 (p := 52) rfl jM224 jq224_51 ?_
        refine jg_iald (p := 53) rfl jM224 jq224_52 (ja_101 s.1) c2.1 c2.2 s (by decide) rfl ?_
        refine jiL1 (p := 54) rfl jM224 jq224_53 ?_
        refine jw_ic (p := 57) rfl jM224 jq224_54 (jc_ne (s.r _ _) hl1) (fun c16 => ?_) (fun c16 => ?_)
        · have h16 := jo_n c16 h3
          refine jaL0 (p := 71) rfl jM224 jq224_70 ?_
          refine jw_getP (p := 74) (i := 14) (q := 98) rfl jM224 jq224_71 rfl (jo_92 s.1) je_11_14 (jp_92_14 s.1) ?_
          refine jiL3 (p := 75) rfl jM224 jq224_74 ?_
          refine jg_iald (p := 76) rfl jM224 jq224_75 (ja_98 s.1) c2.1 c2.2 s (by decide) rfl ?_
          refine jw_iconst (p := 77) rfl jM224 jq224_76 ?_
          refine jw_ic (p := 80) rfl jM224 jq224_77 (jc_eq (s.r _ _) (jb_rn rfl)) (fun c17 => ?_) (fun c17 => ?_)
          · have h17 := jo_p c17 h16
            refine jaL0 (p := 91) rfl jM224 jq224_90 ?_
            refine jw_getP (p := 94) (i := 14) (q := 98) rfl jM224 jq224_91 rfl (jo_92 s.1) je_11_14 (jp_92_14 s.1) ?_
            refine jiL3 (p := 95) rfl jM224 jq224_94 ?_
            refine jg_iald (p := 96) rfl jM224 jq224_95 (ja_98 s.1) c2.1 c2.2 s (by decide) rfl ?_
            refine jw_iconst (p := 97) rfl jM224 jq224_96 ?_
            refine jw_ic (p := 100) rfl jM224 jq224_97 (jc_ne (s.r _ _) (jb_rn rfl)) (fun z => absurd c17 z) (fun _ => ?_)
            refine jaL0 (p := 101) rfl jM224 jq224_100 ?_
            refine jw_getP (p := 104) (i := 33) (q := 116) rfl jM224 jq224_101 rfl (jo_92 s.1) je_11_33 (jp_92_33 s.1) ?_
            refine jiL4 (p := 106) rfl jM224 jq224_104 ?_
            obtain ⟨c18, h18⟩ := jo_i h17
            refine jg_iald (p := 107) rfl jM224 jq224_106 (ja_116 s.1) c18.1 c18.2 s (by decide) rfl ?_
            refine jw_bipush (p := 109) rfl jM224 jq224_107 (by decide) ?_
            refine jw_ic (p := 112) rfl jM224 jq224_109 (jc_eq (s.r _ _) (jb_rn rfl)) (fun c19 => ?_) (fun c19 => ?_)
            · have h19 := jo_p c19 h18
              refine jiL2 (p := 123) rfl jM224 jq224_122 ?_
              refine jiS2 (p := 124) rfl jM224 jq224_123 ?_
              refine jaL0 (p := 125) rfl jM224 jq224_124 ?_
              refine jw_getP (p := 128) (i := 33) (q := 116) rfl jM224 jq224_125 rfl (jo_92 s.1) je_11_33 (jp_92_33 s.1) ?_
              refine jiL4 (p := 130) rfl jM224 jq224_128 ?_
              refine jw_bipush (p := 132) rfl jM224 jq224_130 (by decide) ?_
              refine jg_iast (p := 133) rfl jM224 jq224_132 (ja_116 s.1) c18.1 c18.2 s (by decide) (jb_rn rfl) ?_
              intro σ20 s20
              refine jiI3 (p := 136) rfl jM224 jq224_133 ?_
              refine jw_goto jM224 jq224_136 ?_
              obtain ⟨c21, h21⟩ := jo_i h19
              exact ih hl1 hl2 c21 h21 k σ20 s20
            · have h19 := jo_n c19 h18
              refine jaL0 (p := 113) rfl jM224 jq224_112 ?_
              refine jw_getP (p := 116) (i := 33) (q := 116) rfl jM224 jq224_113 rfl (jo_92 s.1) je_11_33 (jp_92_33 s.1) ?_
              refine jiL4 (p := 118) rfl jM224 jq224_116 ?_
              refine jg_iald (p := 119) rfl jM224 jq224_118 (ja_116 s.1) c18.1 c18.2 s (by decide) rfl ?_
              refine jw_goto jM224 jq224_119 ?_
              refine jiS2 (p := 124) rfl jM224 jq224_123 ?_
              refine jaL0 (p := 125) rfl jM224 jq224_124 ?_
              refine jw_getP (p := 128) (i := 33) (q := 116) rfl jM224 jq224_125 rfl (jo_92 s.1) je_11_33 (jp_92_33 s.1) ?_
              refine jiL4 (p := 130) rfl jM224 jq224_128 ?_
              refine jw_bipush (p := 132) rfl jM224 jq224_130 (by decide) ?_
              refine jg_iast (p := 133) rfl jM224 jq224_132 (ja_116 s.1) c18.1 c18.2 s (by decide) (jb_rn rfl) ?_
              intro σ22 s22
              refine jiI3 (p := 136) rfl jM224 jq224_133 ?_
              refine jw_goto jM224 jq224_136 ?_
              obtain ⟨c23, h23⟩ := jo_i h19
              exact ih hl1 (s.r _ _) c23 h23 k σ22 s22
          · have h17 := jo_n c17 h16
            refine jaL0 (p := 81) rfl jM224 jq224_80 ?_
            refine jw_getP (p := 84) (i := 14) (q := 98) rfl jM224 jq224_81 rfl (jo_92 s.1) je_11_14 (jp_92_14 s.1) ?_
            refine jiL3 (p := 85) rfl jM224 jq224_84 ?_
            refine jg_iald (p := 86) rfl jM224 jq224_85 (ja_98 s.1) c2.1 c2.2 s (by decide) rfl ?_
            refine jw_iconst (p := 87) rfl jM224 jq224_86 ?_
            refine jw_ic (p := 90) rfl jM224 jq224_87 (jc_ne (s.r _ _) (jb_rn rfl)) (fun c24 => ?_) (fun c24 => ?_)
            · have h24 := jo_n c24 h17
              refine jiI3 (p := 136) rfl jM224 jq224_133 ?_
              refine jw_goto jM224 jq224_136 ?_
              obtain ⟨c25, h25⟩ := jo_i h24
              exact ih hl1 hl2 c25 h25 k σ s
            · have h24 := jo_p (Decidable.byContradiction c24) h17
              refine jaL0 (p := 91) rfl jM224 jq224_90 ?_
              refine jw_getP (p := 94) (i := 14) (q := 98) rfl jM224 jq224_91 rfl (jo_92 s.1) je_11_14 (jp_92_14 s.1) ?_
              refine jiL3 (p := 95) rfl jM224 jq224_94 ?_
              refine jg_iald (p := 96) rfl jM224 jq224_95 (ja_98 s.1) c2.1 c2.2 s (by decide) rfl ?_
              refine jw_iconst (p := 97) rfl jM224 jq224_96 ?_
              refine jw_ic (p := 100) rfl jM224 jq224_97 (jc_ne (s.r _ _) (jb_rn rfl)) (fun _ => ?_) (fun z => absurd c17 z)
              refine jiL2 (p := 123) rfl jM224 jq224_122 ?_
              refine jiS2 (p := 124) rfl jM224 jq224_123 ?_
              refine jaL0 (p := 125) rfl jM224 jq224_124 ?_
              refine jw_getP (p := 128) (i := 33) (q := 116) rfl jM224 jq224_125 rfl (jo_92 s.1) je_11_33 (jp_92_33 s.1) ?_
              refine jiL4 (p := 130) rfl jM224 jq224_128 ?_
              refine jw_bipush (p := 132) rfl jM224 jq224_130 (by decide) ?_
              obtain ⟨c26, h26⟩ := jo_i h24
              refine jg_iast (p := 133) rfl jM224 jq224_132 (ja_116 s.1) c26.1 c26.2 s (by decide) (jb_rn rfl) ?_
              intro σ27 s27
              refine jiI3 (p := 136) rfl jM224 jq224_133 ?_
              refine jw_goto jM224 jq224_136 ?_
              obtain ⟨c28, h28⟩ := jo_i h26
              exact ih hl1 hl2 c28 h28 k σ27 s27
        · have h16 := jo_p (Decidable.byContradiction c16) h3
          refine jaL0 (p := 58) rfl jM224 jq224_57 ?_
          refine jw_getP (p := 61) (i := 33) (q := 116) rfl jM224 jq224_58 rfl (jo_92 s.1) je_11_33 (jp_92_33 s.1) ?_
          refine jiL4 (p := 63) rfl jM224 jq224_61 ?_
          refine jaL0 (p := 64) rfl jM224 jq224_63 ?_
          refine jw_getP (p := 67) (i := 19) (q := 103) rfl jM224 jq224_64 rfl (jo_92 s.1) je_11_19 (jp_92_19 s.1) ?_
          refine jiL3 (p := 68) rfl jM224 jq224_67 ?_
          refine jg_iald (p := 69) rfl jM224 jq224_68 (ja_103 s.1) c2.1 c2.2 s (by decide) rfl ?_
          obtain ⟨c29, h29⟩ := jo_i h16
          refine jg_iast (p := 70) rfl jM224 jq224_69 (ja_116 s.1) c29.1 c29.2 s (by decide) (s.r _ _) ?_
          intro σ30 s30
          refine jaL0 (p := 71) rfl jM224 jq224_70 ?_
          refine jw_getP (p := 74) (i := 14) (q := 98) rfl jM224 jq224_71 rfl (jo_92 s30.1) je_11_14 (jp_92_14 s30.1) ?_
          refine jiL3 (p := 75) rfl jM224 jq224_74 ?_
          refine jg_iald (p := 76) rfl jM224 jq224_75 (ja_98 s30.1) c2.1 c2.2 s30 (by decide) (jg_uN (by decide)) ?_
          refine jw_iconst (p := 77) rfl jM224 jq224_76 ?_
          refine jw_ic (p := 80) rfl jM224 jq224_77 (jc_eq (s.r _ _) (jb_rn rfl)) (fun c31 => ?_) (fun c31 => ?_)
          · have h31 := jo_p c31 h29
            refine jaL0 (p := 91) rfl jM224 jq224_90 ?_
            refine jw_getP (p := 94) (i := 14) (q := 98) rfl jM224 jq224_91 rfl (jo_92 s30.1) je_11_14 (jp_92_14 s30.1) ?_
            refine jiL3 (p := 95) rfl jM224 jq224_94 ?_
            refine jg_iald (p := 96) rfl jM224 jq224_95 (ja_98 s30.1) c2.1 c2.2 s30 (by decide) (jg_uN (by decide)) ?_
            refine jw_iconst (p := 97) rfl jM224 jq224_96 ?_
            refine jw_ic (p := 100) rfl jM224 jq224_97 (jc_ne (s.r _ _) (jb_rn rfl)) (fun z => absurd c31 z) (fun _ => ?_)
            refine jaL0 (p := 101) rfl jM224 jq224_100 ?_
            refine jw_getP (p := 104) (i := 33) (q := 116) rfl jM224 jq224_101 rfl (jo_92 s30.1) je_11_33 (jp_92_33 s30.1) ?_
            refine jiL4 (p := 106) rfl jM224 jq224_104 ?_
            refine jg_iald (p := 107) rfl jM224 jq224_106 (ja_116 s30.1) c29.1 c29.2 s30 (by decide) jg_uH ?_
            refine jw_bipush (p := 109) rfl jM224 jq224_107 (by decide) ?_
            refine jw_ic (p := 112) rfl jM224 jq224_109 (jc_eq (s.r _ _) (jb_rn rfl)) (fun c32 => ?_) (fun c32 => ?_)
            · have h32 := jo_p c32 h31
              refine jiL2 (p := 123) rfl jM224 jq224_122 ?_
              refine jiS2 (p := 124) rfl jM224 jq224_123 ?_
              refine jaL0 (p := 125) rfl jM224 jq224_124 ?_
              refine jw_getP (p := 128) (i := 33) (q := 116) rfl jM224 jq224_125 rfl (jo_92 s30.1) je_11_33 (jp_92_33 s30.1) ?_
              refine jiL4 (p := 130) rfl jM224 jq224_128 ?_
              refine jw_bipush (p := 132) rfl jM224 jq224_130 (by decide) ?_
              refine jg_iast (p := 133) rfl jM224 jq224_132 (ja_116 s30.1) c29.1 c29.2 s30 (by decide) (jb_rn rfl) ?_
              intro σ33 s33
              refine jiI3 (p := 136) rfl jM224 jq224_133 ?_
              refine jw_goto jM224 jq224_136 ?_
              obtain ⟨c34, h34⟩ := jo_i h32
              exact ih hl1 hl2 c34 h34 k σ33 s33
            · have h32 := jo_n c32 h31
              refine jaL0 (p := 113) rfl jM224 jq224_112 ?_
              refine jw_getP (p := 116) (i := 33) (q := 116) rfl jM224 jq224_113 rfl (jo_92 s30.1) je_11_33 (jp_92_33 s30.1) ?_
              refine jiL4 (p := 118) rfl jM224 jq224_116 ?_
              refine jg_iald (p := 119) rfl jM224 jq224_118 (ja_116 s30.1) c29.1 c29.2 s30 (by decide) jg_uH ?_
              refine jw_goto jM224 jq224_119 ?_
              refine jiS2 (p := 124) rfl jM224 jq224_123 ?_
              refine jaL0 (p := 125) rfl jM224 jq224_124 ?_
              refine jw_getP (p := 128) (i := 33) (q := 116) rfl jM224 jq224_125 rfl (jo_92 s30.1) je_11_33 (jp_92_33 s30.1) ?_
              refine jiL4 (p := 130) rfl jM224 jq224_128 ?_
              refine jw_bipush (p := 132) rfl jM224 jq224_130 (by decide) ?_
              refine jg_iast (p := 133) rfl jM224 jq224_132 (ja_116 s30.1) c29.1 c29.2 s30 (by decide) (jb_rn rfl) ?_
              intro σ35 s35
              refine jiI3 (p := 136) rfl jM224 jq224_133 ?_
              refine jw_goto jM224 jq224_136 ?_
              obtain ⟨c36, h36⟩ := jo_i h32
              exact ih hl1 (s.r _ _) c36 h36 k σ35 s35
          · have h31 := jo_n c31 h29
            refine jaL0 (p := 81) rfl jM224 jq224_80 ?_
            refine jw_getP (p := 84) (i := 14) (q := 98) rfl jM224 jq224_81 rfl (jo_92 s30.1) je_11_14 (jp_92_14 s30.1) ?_
            refine jiL3 (p := 85) rfl jM224 jq224_84 ?_
            refine jg_iald (p := 86) rfl jM224 jq224_85 (ja_98 s30.1) c2.1 c2.2 s30 (by decide) (jg_uN (by decide)) ?_
            refine jw_iconst (p := 87) rfl jM224 jq224_86 ?_
            refine jw_ic (p := 90) rfl jM224 jq224_87 (jc_ne (s.r _ _) (jb_rn rfl)) (fun c37 => ?_) (fun c37 => ?_)
            · have h37 := jo_n c37 h31
              refine jiI3 (p := 136) rfl jM224 jq224_133 ?_
              refine jw_goto jM224 jq224_136 ?_
              obtain ⟨c38, h38⟩ := jo_i h37
              exact ih hl1 hl2 c38 h38 k σ30 s30
            · have h37 := jo_p (Decidable.byContradiction c37) h31
              refine jaL0 (p := 91) rfl jM224 jq224_90 ?_
              refine jw_getP (p := 94) (i := 14) (q := 98) rfl jM224 jq224_91 rfl (jo_92 s30.1) je_11_14 (jp_92_14 s30.1) ?_
              refine jiL3 (p := 95) rfl jM224 jq224_94 ?_
              refine jg_iald (p := 96) rfl jM224 jq224_95 (ja_98 s30.1) c2.1 c2.2 s30 (by decide) (jg_uN (by decide)) ?_
              refine jw_iconst (p := 97) rfl jM224 jq224_96 ?_
              refine jw_ic (p := 100) rfl jM224 jq224_97 (jc_ne (s.r _ _) (jb_rn rfl)) (fun _ => ?_) (fun z => absurd c31 z)
              refine jiL2 (p := 123) rfl jM224 jq224_122 ?_
              refine jiS2 (p := 124) rfl jM224 jq224_123 ?_
              refine jaL0 (p := 125) rfl jM224 jq224_124 ?_
              refine jw_getP (p := 128) (i := 33) (q := 116) rfl jM224 jq224_125 rfl (jo_92 s30.1) je_11_33 (jp_92_33 s30.1) ?_
              refine jiL4 (p := 130) rfl jM224 jq224_128 ?_
              refine jw_bipush (p := 132) rfl jM224 jq224_130 (by decide) ?_
              refine jg_iast (p := 133) rfl jM224 jq224_132 (ja_116 s30.1) c29.1 c29.2 s30 (by decide) (jb_rn rfl) ?_
              intro σ39 s39
              refine jiI3 (p := 136) rfl jM224 jq224_133 ?_
              refine jw_goto jM224 jq224_136 ?_
              obtain ⟨c40, h40⟩ := jo_i h37
              exact ih hl1 hl2 c40 h40 k σ39 s39
def fo224_4 : Nat → jg_G → Int → Int → Int → Option (jg_G × Int)
  | 0, _, _, _, _ => none
  | m + 1, G, l1, l2, l3 => if 4 ≤ l3 then (fo224_25 jo_N G l1 l2 1) else (if 0 ≤ l3 ∧ l3 < 4 then if -2147483648 ≤ (l3 + 1) ∧ (l3 + 1) < 2147483648 then fo224_4 m (jg_u G 116 l3 (-2)) l1 l2 (l3 + 1) else none else none)
theorem jf224_4 {d : Nat} {σ0 : ib_H} {Q : ib_O → Prop} : ∀ (m : Nat) {G : jg_G} {l1 : Int} {l2 : Int} {l3 : Int} (hl1 : jb_r l1) (hl2 : jb_r l2) (hl3 : jb_r l3) {r : jg_G × Int} (h : fo224_4 m G l1 l2 l3 = some r) (k : ∀ σ, jg_S σ0 r.1 σ → jb_r r.2 → Q (.inl (some (jb_v r.2)), σ)), jg_W σ0 G d 224 4 [some (.ref 92), some (jb_v l1), some (jb_v l2), some (jb_v l3), none] [] Q := by
  intro m
  induction m with
  | zero =>
    intro G l1 l2 l3 hl1 hl2 hl3 r h k
    cases h
  | succ m ih =>
    intro G l1 l2 l3 hl1 hl2 hl3 r h k σ s
    unfold fo224_4 at h
    refine jiL3 (p := 5) rfl jM224 jq224_4 ?_
    refine jw_iconst (p := 6) rfl jM224 jq224_5 ?_
    refine jw_ic (p := 9) rfl jM224 jq224_6 (jc_ge hl3 (jb_rn rfl)) (fun c1 => ?_) (fun c1 => ?_)
    · have h1 := jo_p c1 h
      refine jw_iconst (p := 24) rfl jM224 jq224_23 ?_
      refine jiS3 (p := 25) rfl jM224 jq224_24 ?_
      exact jf224_25 jo_N hl1 hl2 (jb_rn rfl) h1 k σ s
    · have h1 := jo_n c1 h
      refine jaL0 (p := 10) rfl jM224 jq224_9 ?_
      refine jw_getP (p := 13) (i := 33) (q := 116) rfl jM224 jq224_10 rfl (jo_92 s.1) je_11_33 (jp_92_33 s.1) ?_
      refine jiL3 (p := 14) rfl jM224 jq224_13 ?_
      refine jw_bipush (p := 16) rfl jM224 jq224_14 (by decide) ?_
      obtain ⟨c2, h2⟩ := jo_i h1
      refine jg_iast (p := 17) rfl jM224 jq224_16 (ja_116 s.1) c2.1 c2.2 s (by decide) (jb_rn rfl) ?_
      intro σ3 s3
      refine jiI3 (p := 20) rfl jM224 jq224_17 ?_
      refine jw_goto jM224 jq224_20 ?_
      obtain ⟨c4, h4⟩ := jo_i h2
      exact ih hl1 hl2 c4 h4 k σ3 s3
def fo224 (G : jg_G) (l1 : Int) : Option (jg_G × Int) := fo224_4 jo_N G l1 (-1) 0
theorem jf224 {d : Nat} {σ0 : ib_H} {Q : ib_O → Prop} {G : jg_G} {l1 : Int} (hl1 : jb_r l1) {r : jg_G × Int} (h : fo224 G l1 = some r) (k : ∀ σ, jg_S σ0 r.1 σ → jb_r r.2 → Q (.inl (some (jb_v r.2)), σ)) : jg_W σ0 G d 224 0 [some (.ref 92), some (jb_v l1), none, none, none] [] Q := by
  intro σ s
  unfold fo224 at h
  refine jw_iconst (p := 1) rfl jM224 jq224_0 ?_
  refine jiS2 (p := 2) rfl jM224 jq224_1 ?_
  refine jw_iconst (p := 3) rfl jM224 jq224_2 ?_
  refine jiS3 (p := 4) rfl jM224 jq224_3 ?_
  exact jf224_4 jo_N hl1 (jb_rn rfl) (jb_rn rfl) h k σ s
-- 225 plain need 1
def fo225 (G : jg_G) (l1 : Int) : Option (jg_G × Int) := if l1 < 0 then (some (jg_u G 92 0 1, 0)) else (if 31 < l1 then (some (jg_u G 92 0 1, 0)) else ((fo224 (jg_u G 92 0 0) l1).bind fun x6 => some (x6.1, x6.2)))
theorem jf225 {d : Nat} {σ0 : ib_H} {Q : ib_O → Prop} {G : jg_G} {l1 : Int} (hl1 : jb_r l1) {r : jg_G × Int} (h : fo225 G l1 = some r) (k : ∀ σ, jg_S σ0 r.1 σ → jb_r r.2 → Q (.inl (some (jb_v r.2)), σ)) : jg_W σ0 G (d + 1) 225 0 [some (.ref 92), some (jb_v l1)] [] Q := by
  intro σ s
  unfold fo225 at h
  refine jaL0 (p := 1) rfl jM225 jq225_0 ?_
  refine jiL1 (p := 2) rfl jM225 jq225_1 ?_
  refine jw_iconst (p := 3) rfl jM225 jq225_2 ?_
  refine jw_bipush (p := 5) rfl jM225 jq225_3 (by decide) ?_
  refine jw_callS [(jb_v l1), (jb_v 0), (jb_v 31)] jM225 jq225_5 rfl rfl rfl jM147 rfl rfl ?_
  show jb_w d 147 0 [some (jb_v l1), some (jb_v 0), some (jb_v 31)] [] σ (jb_k (d + 1) 225 5 [some (.ref 92), some (jb_v l1)] [(.ref 92)] Q)
  refine jiL0 (p := 1) rfl jM147 jq147_0 ?_
  refine jiL1 (p := 2) rfl jM147 jq147_1 ?_
  refine jw_ic (p := 5) rfl jM147 jq147_2 (jc_lt hl1 (jb_rn rfl)) (fun c1 => ?_) (fun c1 => ?_)
  · have h1 := jo_p c1 h
    refine jw_iconst (p := 15) rfl jM147 jq147_14 ?_
    refine jw_iret jM147 jq147_15 (fun _ => Or.inl rfl) ?_
    show jb_w (d + 1) 225 8 [some (.ref 92), some (jb_v l1)] [(jb_v 0), (.ref 92)] σ Q
    refine jw_if (p := 11) rfl jM225 jq225_8 (jc_eq (jb_rn rfl) jb_r0) (fun _ => ?_) (fun z => absurd (by decide) z)
    refine jw_iconst (p := 16) rfl jM225 jq225_15 ?_
    refine jg_putI (p := 19) (i := 0) rfl jM225 jq225_16 rfl (jo_92 s.1) (Or.inl jz_11_0) s (by decide) (by decide) (jb_rn rfl) ?_
    intro σ2 s2
    refine jaL0 (p := 20) rfl jM225 jq225_19 ?_
    refine jg_getI (p := 23) (i := 0) rfl jM225 jq225_20 rfl (jo_92 s2.1) jn_11_0 s2 (by decide) (by decide) jg_uH ?_
    refine jw_if (p := 26) rfl jM225 jq225_23 (jc_le (jb_rn rfl) jb_r0) (fun z => absurd z (by decide)) (fun _ => ?_)
    refine jw_iconst (p := 27) rfl jM225 jq225_26 ?_
    refine jw_goto jM225 jq225_27 ?_
    cases h1
    exact jw_iret jM225 jq225_35 (fun z => absurd z (by decide)) (k σ2 s2 (jb_rn rfl))
  · have h1 := jo_n c1 h
    refine jiL0 (p := 6) rfl jM147 jq147_5 ?_
    refine jiL2 (p := 7) rfl jM147 jq147_6 ?_
    refine jw_ic (p := 10) rfl jM147 jq147_7 (jc_gt hl1 (jb_rn rfl)) (fun c3 => ?_) (fun c3 => ?_)
    · have h3 := jo_p c3 h1
      refine jw_iconst (p := 15) rfl jM147 jq147_14 ?_
      refine jw_iret jM147 jq147_15 (fun _ => Or.inl rfl) ?_
      show jb_w (d + 1) 225 8 [some (.ref 92), some (jb_v l1)] [(jb_v 0), (.ref 92)] σ Q
      refine jw_if (p := 11) rfl jM225 jq225_8 (jc_eq (jb_rn rfl) jb_r0) (fun _ => ?_) (fun z => absurd (by decide) z)
      refine jw_iconst (p := 16) rfl jM225 jq225_15 ?_
      refine jg_putI (p := 19) (i := 0) rfl jM225 jq225_16 rfl (jo_92 s.1) (Or.inl jz_11_0) s (by decide) (by decide) (jb_rn rfl) ?_
      intro σ4 s4
      refine jaL0 (p := 20) rfl jM225 jq225_19 ?_
      refine jg_getI (p := 23) (i := 0) rfl jM225 jq225_20 rfl (jo_92 s4.1) jn_11_0 s4 (by decide) (by decide) jg_uH ?_
      refine jw_if (p := 26) rfl jM225 jq225_23 (jc_le (jb_rn rfl) jb_r0) (fun z => absurd z (by decide)) (fun _ => ?_)
      refine jw_iconst (p := 27) rfl jM225 jq225_26 ?_
      refine jw_goto jM225 jq225_27 ?_
      cases h3
      exact jw_iret jM225 jq225_35 (fun z => absurd z (by decide)) (k σ4 s4 (jb_rn rfl))
    · have h3 := jo_n c3 h1
      refine jw_iconst (p := 11) rfl jM147 jq147_10 ?_
      refine jw_goto jM147 jq147_11 ?_
      refine jw_iret jM147 jq147_15 (fun _ => Or.inr rfl) ?_
      show jb_w (d + 1) 225 8 [some (.ref 92), some (jb_v l1)] [(jb_v 1), (.ref 92)] σ Q
      refine jw_if (p := 11) rfl jM225 jq225_8 (jc_eq (jb_rn rfl) jb_r0) (fun z => absurd z (by decide)) (fun _ => ?_)
      refine jw_iconst (p := 12) rfl jM225 jq225_11 ?_
      refine jw_goto jM225 jq225_12 ?_
      refine jg_putI (p := 19) (i := 0) rfl jM225 jq225_16 rfl (jo_92 s.1) (Or.inl jz_11_0) s (by decide) (by decide) (jb_rn rfl) ?_
      intro σ5 s5
      refine jaL0 (p := 20) rfl jM225 jq225_19 ?_
      refine jg_getI (p := 23) (i := 0) rfl jM225 jq225_20 rfl (jo_92 s5.1) jn_11_0 s5 (by decide) (by decide) jg_uH ?_
      refine jw_if (p := 26) rfl jM225 jq225_23 (jc_le (jb_rn rfl) jb_r0) (fun _ => ?_) (fun z => absurd (by decide) z)
      refine jaL0 (p := 31) rfl jM225 jq225_30 ?_
      refine jiL1 (p := 32) rfl jM225 jq225_31 ?_
      refine jw_callV [(jb_v l1)] jM225 jq225_32 rfl rfl (jo_92 s5.1) rfl jM224 rfl rfl ?_
      obtain ⟨x6, b7, h7⟩ := jo_b h3
      refine jf224 hl1 b7 (fun σ6 s6 r6 => ?_) σ5 s5
      show jb_w (d + 1) 225 35 [some (.ref 92), some (jb_v l1)] [(jb_v (x6.2))] σ6 Q
      cases h7
      exact jw_iret jM225 jq225_35 (fun z => absurd z (by decide)) (k σ6 s6 r6)
-- 226 hasIt need 2
def fo226_5 : Nat → jg_G → Int → Int → Int → Int → Option (jg_G × Int)
  | 0, _, _, _, _, _ => none
  | m + 1, G, l1, l2, l3, l4 => if 24 ≤ l4 then (some (G, 0)) else (if 0 ≤ l3 ∧ l3 < 24 then jo_l (fr_ro G l3) fun x3 => jo_l (fr_to G l3) fun x5 => if x5 = 0 then (if 0 ≤ (67 * x3) ∧ (67 * x3) < 305118 then if G 93 (67 * x3) = 0 then (some (G, 0)) else (if G 93 (67 * x3) = 2 then (if 0 ≤ ((67 * x3) + 2) ∧ ((67 * x3) + 2) < 305118 then if G 93 ((67 * x3) + 2) = 0 then (some (G, 0)) else (if G 93 (67 * x3) = 1 then (if 0 ≤ x3 ∧ x3 < 4554 then if 0 ≤ G 93 (67 * x3 + 2) ∧ G 93 (67 * x3 + 2) ≤ 32 then jo_l (fr_pl G x3 l1) fun x35 => if 0 ≤ x35 then (if 0 ≤ (((67 * x3) + 4) + (2 * x35)) ∧ (((67 * x3) + 4) + (2 * x35)) < 305118 then if l2 = G 93 (((67 * x3) + 4) + (2 * x35)) then (some (G, 1)) else (some (G, 0)) else none) else (if l2 = (-1) then (some (G, 1)) else (some (G, 0))) else none else none) else (if 0 ≤ x3 ∧ x3 < 4553 then if 0 ≤ G 93 (67 * x3 + 2) ∧ G 93 (67 * x3 + 2) ≤ 32 then jo_l (fr_ch G x3 l1) fun x30 => if -2147483648 ≤ (l4 + 1) ∧ (l4 + 1) < 2147483648 then fo226_5 m G l1 l2 x30 (l4 + 1) else none else none else none)) else none) else (if G 93 (67 * x3) = 1 then (if 0 ≤ x3 ∧ x3 < 4554 then if 0 ≤ G 93 (67 * x3 + 2) ∧ G 93 (67 * x3 + 2) ≤ 32 then jo_l (fr_pl G x3 l1) fun x19 => if 0 ≤ x19 then (if 0 ≤ (((67 * x3) + 4) + (2 * x19)) ∧ (((67 * x3) + 4) + (2 * x19)) < 305118 then if l2 = G 93 (((67 * x3) + 4) + (2 * x19)) then (some (G, 1)) else (some (G, 0)) else none) else (if l2 = (-1) then (some (G, 1)) else (some (G, 0))) else none else none) else (if 0 ≤ x3 ∧ x3 < 4553 then if 0 ≤ G 93 (67 * x3 + 2) ∧ G 93 (67 * x3 + 2) ≤ 32 then jo_l (fr_ch G x3 l1) fun x14 => if -2147483648 ≤ (l4 + 1) ∧ (l4 + 1) < 2147483648 then fo226_5 m G l1 l2 x14 (l4 + 1) else none else none else none))) else none) else (some (G, 0)) else none)
theorem jf226_5 {d : Nat} {σ0 : ib_H} {Q : ib_O → Prop} : ∀ (m : Nat) {G : jg_G} {l1 : Int} {l2 : Int} {l3 : Int} {l4 : Int} {o5 : Option Value} (hl1 : jb_r l1) (hl2 : jb_r l2) (hl3 : jb_r l3) (hl4 : jb_r l4) {r : jg_G × Int} (h : fo226_5 m G l1 l2 l3 l4 = some r) (k : ∀ σ, jg_S σ0 r.1 σ → jb_r r.2 → Q (.inl (some (jb_v r.2)), σ)), jg_W σ0 G (d + 2) 226 5 [some (.ref 92), some (jb_v l1), some (jb_v l2), some (jb_v l3), some (jb_v l4), o5, none] [] Q := by
  intro m
  induction m with
  | zero =>
    intro G l1 l2 l3 l4 o5 hl1 hl2 hl3 hl4 r h k
    cases h
  | succ m ih =>
    intro G l1 l2 l3 l4 o5 hl1 hl2 hl3 hl4 r h k σ s
    unfold fo226_5 at h
    refine jiL4 (p := 7) rfl jM226 jq226_5 ?_
    refine jw_bipush (p := 9) rfl jM226 jq226_7 (by decide) ?_
    refine jw_ic (p := 12) rfl jM226 jq226_9 (jc_ge hl4 (jb_rn rfl)) (fun c1 => ?_) (fun c1 => ?_)
    · have h1 := jo_p c1 h
      refine jw_iconst (p := 118) rfl jM226 jq226_117 ?_
      cases h1
      exact jw_iret jM226 jq226_118 (fun _ => Or.inl rfl) (k σ s (jb_rn rfl))
    · have h1 := jo_n c1 h
      refine jaL0 (p := 13) rfl jM226 jq226_12 ?_
      refine jiL3 (p := 14) rfl jM226 jq226_13 ?_
      refine jw_callV [(jb_v l3)] jM226 jq226_14 rfl rfl (jo_92 s.1) rfl jM161 rfl rfl ?_
      obtain ⟨c2, h2⟩ := jo_i h1
      obtain ⟨x3, e4, h4⟩ := jo_lb h2
      refine cs161 c2 (fun σ3 s3 r3 => ?_) σ s
      rw [e4] at r3 ⊢
      show jb_w (d + 2) 226 17 [some (.ref 92), some (jb_v l1), some (jb_v l2), some (jb_v l3), some (jb_v l4), o5, none] [(jb_v x3)] σ3 Q
      refine jiS5 (p := 19) rfl jM226 jq226_17 ?_
      refine jaL0 (p := 20) rfl jM226 jq226_19 ?_
      refine jiL3 (p := 21) rfl jM226 jq226_20 ?_
      refine jw_callV [(jb_v l3)] jM226 jq226_21 rfl rfl (jo_92 s3.1) rfl jM162 rfl rfl ?_
      obtain ⟨x5, e6, h6⟩ := jo_lb h4
      refine cs162 c2 (fun σ5 s5 r5 => ?_) σ3 s3
      rw [e6] at r5 ⊢
      show jb_w (d + 2) 226 24 [some (.ref 92), some (jb_v l1), some (jb_v l2), some (jb_v l3), some (jb_v l4), some (jb_v x3), none] [(jb_v x5)] σ5 Q
      refine jw_if (p := 27) rfl jM226 jq226_24 (jc_ne r5 jb_r0) (fun c7 => ?_) (fun c7 => ?_)
      · have h7 := jo_n c7 h6
        refine jw_iconst (p := 56) rfl jM226 jq226_55 ?_
        cases h7
        exact jw_iret jM226 jq226_56 (fun _ => Or.inl rfl) (k σ5 s5 (jb_rn rfl))
      · have h7 := jo_p (Decidable.byContradiction c7) h6
        refine jaL0 (p := 28) rfl jM226 jq226_27 ?_
        refine jiL5 (p := 30) rfl jM226 jq226_28 ?_
        refine jw_callV [(jb_v x3)] jM226 jq226_30 rfl rfl (jo_92 s5.1) rfl jM149 rfl rfl ?_
        show jb_w (d + 1) 149 0 [some (.ref 92), some (jb_v x3)] [] σ5 (jb_k (d + 2) 226 30 [some (.ref 92), some (jb_v l1), some (jb_v l2), some (jb_v l3), some (jb_v l4), some (jb_v x3), none] [] Q)
        refine jaL0 (p := 1) rfl jM149 jq149_0 ?_
        refine jw_getP (p := 4) (i := 1) (q := 93) rfl jM149 jq149_1 rfl (jo_92 s5.1) je_11_1 (jp_92_1 s5.1) ?_
        refine jw_bipush (p := 6) rfl jM149 jq149_4 (by decide) ?_
        refine jiL1 (p := 7) rfl jM149 jq149_6 ?_
        refine jw_imul (p := 8) rfl jM149 jq149_7 ?_
        obtain ⟨c8, h8⟩ := jo_i h7
        refine jg_iald (p := 9) rfl jM149 jq149_8 (ja_93 s5.1) c8.1 c8.2 s5 (by decide) rfl ?_
        refine jw_iret jM149 jq149_9 (fun z => absurd z (by decide)) ?_
        show jb_w (d + 2) 226 33 [some (.ref 92), some (jb_v l1), some (jb_v l2), some (jb_v l3), some (jb_v l4), some (jb_v x3), none] [(jb_v (G 93 (67 * x3)))] σ5 Q
        refine jw_if (p := 36) rfl jM226 jq226_33 (jc_eq (s.r _ _) jb_r0) (fun c9 => ?_) (fun c9 => ?_)
        · have h9 := jo_p c9 h8
          refine jw_iconst (p := 56) rfl jM226 jq226_55 ?_
          cases h9
          exact jw_iret jM226 jq226_56 (fun _ => Or.inl rfl) (k σ5 s5 (jb_rn rfl))
        · have h9 := jo_n c9 h8
          refine jaL0 (p := 37) rfl jM226 jq226_36 ?_
          refine jiL5 (p := 39) rfl jM226 jq226_37 ?_
          refine jw_callV [(jb_v x3)] jM226 jq226_39 rfl rfl (jo_92 s5.1) rfl jM149 rfl rfl ?_
          show jb_w (d + 1) 149 0 [some (.ref 92), some (jb_v x3)] [] σ5 (jb_k (d + 2) 226 39 [some (.ref 92), some (jb_v l1), some (jb_v l2), some (jb_v l3), some (jb_v l4), some (jb_v x3), none] [] Q)
          refine jaL0 (p := 1) rfl jM149 jq149_0 ?_
          refine jw_getP (p := 4) (i := 1) (q := 93) rfl jM149 jq149_1 rfl (jo_92 s5.1) je_11_1 (jp_92_1 s5.1) ?_
          refine jw_bipush (p := 6) rfl jM149 jq149_4 (by decide) ?_
          refine jiL1 (p := 7) rfl jM149 jq149_6 ?_
          refine jw_imul (p := 8) rfl jM149 jq149_7 ?_
          refine jg_iald (p := 9) rfl jM149 jq149_8 (ja_93 s5.1) c8.1 c8.2 s5 (by decide) rfl ?_
          refine jw_iret jM149 jq149_9 (fun z => absurd z (by decide)) ?_
          show jb_w (d + 2) 226 42 [some (.ref 92), some (jb_v l1), some (jb_v l2), some (jb_v l3), some (jb_v l4), some (jb_v x3), none] [(jb_v (G 93 (67 * x3)))] σ5 Q
          refine jw_iconst (p := 43) rfl jM226 jq226_42 ?_
          refine jw_ic (p := 46) rfl jM226 jq226_43 (jc_ne (s.r _ _) (jb_rn rfl)) (fun c10 => ?_) (fun c10 => ?_)
          · have h10 := jo_n c10 h9
            refine jaL0 (p := 58) rfl jM226 jq226_57 ?_
            refine jiL5 (p := 60) rfl jM226 jq226_58 ?_
            refine jw_callV [(jb_v x3)] jM226 jq226_60 rfl rfl (jo_92 s5.1) rfl jM149 rfl rfl ?_
            show jb_w (d + 1) 149 0 [some (.ref 92), some (jb_v x3)] [] σ5 (jb_k (d + 2) 226 60 [some (.ref 92), some (jb_v l1), some (jb_v l2), some (jb_v l3), some (jb_v l4), some (jb_v x3), none] [] Q)
            refine jaL0 (p := 1) rfl jM149 jq149_0 ?_
            refine jw_getP (p := 4) (i := 1) (q := 93) rfl jM149 jq149_1 rfl (jo_92 s5.1) je_11_1 (jp_92_1 s5.1) ?_
            refine jw_bipush (p := 6) rfl jM149 jq149_4 (by decide) ?_
            refine jiL1 (p := 7) rfl jM149 jq149_6 ?_
            refine jw_imul (p := 8) rfl jM149 jq149_7 ?_
            refine jg_iald (p := 9) rfl jM149 jq149_8 (ja_93 s5.1) c8.1 c8.2 s5 (by decide) rfl ?_
            refine jw_iret jM149 jq149_9 (fun z => absurd z (by decide)) ?_
            show jb_w (d + 2) 226 63 [some (.ref 92), some (jb_v l1), some (jb_v l2), some (jb_v l3), some (jb_v l4), some (jb_v x3), none] [(jb_v (G 93 (67 * x3)))] σ5 Q
            refine jw_iconst (p := 64) rfl jM226 jq226_63 ?_
            refine jw_ic (p := 67) rfl jM226 jq226_64 (jc_ne (s.r _ _) (jb_rn rfl)) (fun c11 => ?_) (fun c11 => ?_)
            · have h11 := jo_n c11 h10
              refine jaL0 (p := 104) rfl jM226 jq226_103 ?_
              refine jiL5 (p := 106) rfl jM226 jq226_104 ?_
              refine jiL1 (p := 107) rfl jM226 jq226_106 ?_
              refine jw_callV [(jb_v x3), (jb_v l1)] jM226 jq226_107 rfl rfl (jo_92 s5.1) rfl jM159 rfl rfl ?_
              obtain ⟨c12, h12⟩ := jo_i h11
              obtain ⟨c13, h13⟩ := jo_i h12
              obtain ⟨x14, e15, h15⟩ := jo_lb h13
              refine cs159 c12 c13 hl1 (fun σ14 s14 r14 => ?_) σ5 s5
              rw [e15] at r14 ⊢
              show jb_w (d + 2) 226 110 [some (.ref 92), some (jb_v l1), some (jb_v l2), some (jb_v l3), some (jb_v l4), some (jb_v x3), none] [(jb_v x14)] σ14 Q
              refine jiS3 (p := 111) rfl jM226 jq226_110 ?_
              refine jiI4 (p := 114) rfl jM226 jq226_111 ?_
              refine jw_goto jM226 jq226_114 ?_
              obtain ⟨c16, h16⟩ := jo_i h15
              exact ih hl1 hl2 r14 c16 h16 k σ14 s14
            · have h11 := jo_p (Decidable.byContradiction c11) h10
              refine jaL0 (p := 68) rfl jM226 jq226_67 ?_
              refine jiL5 (p := 70) rfl jM226 jq226_68 ?_
              refine jiL1 (p := 71) rfl jM226 jq226_70 ?_
              refine jw_callV [(jb_v x3), (jb_v l1)] jM226 jq226_71 rfl rfl (jo_92 s5.1) rfl jM158 rfl rfl ?_
              obtain ⟨c17, h17⟩ := jo_i h11
              obtain ⟨c18, h18⟩ := jo_i h17
              obtain ⟨x19, e20, h20⟩ := jo_lb h18
              refine cs158 c17 c18 hl1 (fun σ19 s19 r19 => ?_) σ5 s5
              rw [e20] at r19 ⊢
              show jb_w (d + 2) 226 74 [some (.ref 92), some (jb_v l1), some (jb_v l2), some (jb_v l3), some (jb_v l4), some (jb_v x3), none] [(jb_v x19)] σ19 Q
              refine jiS6 (p := 76) rfl jM226 jq226_74 ?_
              refine jiL2 (p := 77) rfl jM226 jq226_76 ?_
              refine jiL6 (p := 79) rfl jM226 jq226_77 ?_
              refine jw_if (p := 82) rfl jM226 jq226_79 (jc_ge r19 jb_r0) (fun c21 => ?_) (fun c21 => ?_)
              · have h21 := jo_p c21 h20
                refine jaL0 (p := 87) rfl jM226 jq226_86 ?_
                refine jiL5 (p := 89) rfl jM226 jq226_87 ?_
                refine jiL6 (p := 91) rfl jM226 jq226_89 ?_
                refine jw_callV [(jb_v x3), (jb_v x19)] jM226 jq226_91 rfl rfl (jo_92 s19.1) rfl jM152 rfl rfl ?_
                show jb_w (d + 1) 152 0 [some (.ref 92), some (jb_v x3), some (jb_v x19)] [] σ19 (jb_k (d + 2) 226 91 [some (.ref 92), some (jb_v l1), some (jb_v l2), some (jb_v l3), some (jb_v l4), some (jb_v x3), some (jb_v x19)] [(jb_v l2)] Q)
                refine jaL0 (p := 1) rfl jM152 jq152_0 ?_
                refine jw_getP (p := 4) (i := 1) (q := 93) rfl jM152 jq152_1 rfl (jo_92 s19.1) je_11_1 (jp_92_1 s19.1) ?_
                refine jw_bipush (p := 6) rfl jM152 jq152_4 (by decide) ?_
                refine jiL1 (p := 7) rfl jM152 jq152_6 ?_
                refine jw_imul (p := 8) rfl jM152 jq152_7 ?_
                refine jw_iconst (p := 9) rfl jM152 jq152_8 ?_
                refine jw_iadd (p := 10) rfl jM152 jq152_9 ?_
                refine jw_iconst (p := 11) rfl jM152 jq152_10 ?_
                refine jiL2 (p := 12) rfl jM152 jq152_11 ?_
                refine jw_imul (p := 13) rfl jM152 jq152_12 ?_
                refine jw_iadd (p := 14) rfl jM152 jq152_13 ?_
                obtain ⟨c22, h22⟩ := jo_i h21
                refine jg_iald (p := 15) rfl jM152 jq152_14 (ja_93 s19.1) c22.1 c22.2 s19 (by decide) rfl ?_
                refine jw_iret jM152 jq152_15 (fun z => absurd z (by decide)) ?_
                show jb_w (d + 2) 226 94 [some (.ref 92), some (jb_v l1), some (jb_v l2), some (jb_v l3), some (jb_v l4), some (jb_v x3), some (jb_v x19)] [(jb_v (G 93 (((67 * x3) + 4) + (2 * x19)))), (jb_v l2)] σ19 Q
                refine jw_ic (p := 97) rfl jM226 jq226_94 (jc_ne hl2 (s.r _ _)) (fun c23 => ?_) (fun c23 => ?_)
                · have h23 := jo_n c23 h22
                  refine jw_iconst (p := 102) rfl jM226 jq226_101 ?_
                  cases h23
                  exact jw_iret jM226 jq226_102 (fun _ => Or.inl rfl) (k σ19 s19 (jb_rn rfl))
                · have h23 := jo_p (Decidable.byContradiction c23) h22
                  refine jw_iconst (p := 98) rfl jM226 jq226_97 ?_
                  refine jw_goto jM226 jq226_98 ?_
                  cases h23
                  exact jw_iret jM226 jq226_102 (fun _ => Or.inr rfl) (k σ19 s19 (jb_rn rfl))
              · have h21 := jo_n c21 h20
                refine jw_iconst (p := 83) rfl jM226 jq226_82 ?_
                refine jw_goto jM226 jq226_83 ?_
                refine jw_ic (p := 97) rfl jM226 jq226_94 (jc_ne hl2 (jb_rn rfl)) (fun c24 => ?_) (fun c24 => ?_)
                · have h24 := jo_n c24 h21
                  refine jw_iconst (p := 102) rfl jM226 jq226_101 ?_
                  cases h24
                  exact jw_iret jM226 jq226_102 (fun _ => Or.inl rfl) (k σ19 s19 (jb_rn rfl))
                · have h24 := jo_p (Decidable.byContradiction c24) h21
                  refine jw_iconst (p := 98) rfl jM226 jq226_97 ?_
                  refine jw_goto jM226 jq226_98 ?_
                  cases h24
                  exact jw_iret jM226 jq226_102 (fun _ => Or.inr rfl) (k σ19 s19 (jb_rn rfl))
          · have h10 := jo_p (Decidable.byContradiction c10) h9
            refine jaL0 (p := 47) rfl jM226 jq226_46 ?_
            refine jiL5 (p := 49) rfl jM226 jq226_47 ?_
            refine jw_callV [(jb_v x3)] jM226 jq226_49 rfl rfl (jo_92 s5.1) rfl jM150 rfl rfl ?_
            show jb_w (d + 1) 150 0 [some (.ref 92), some (jb_v x3)] [] σ5 (jb_k (d + 2) 226 49 [some (.ref 92), some (jb_v l1), some (jb_v l2), some (jb_v l3), some (jb_v l4), some (jb_v x3), none] [] Q)
            refine jaL0 (p := 1) rfl jM150 jq150_0 ?_
            refine jw_getP (p := 4) (i := 1) (q := 93) rfl jM150 jq150_1 rfl (jo_92 s5.1) je_11_1 (jp_92_1 s5.1) ?_
            refine jw_bipush (p := 6) rfl jM150 jq150_4 (by decide) ?_
            refine jiL1 (p := 7) rfl jM150 jq150_6 ?_
            refine jw_imul (p := 8) rfl jM150 jq150_7 ?_
            refine jw_iconst (p := 9) rfl jM150 jq150_8 ?_
            refine jw_iadd (p := 10) rfl jM150 jq150_9 ?_
            obtain ⟨c25, h25⟩ := jo_i h10
            refine jg_iald (p := 11) rfl jM150 jq150_10 (ja_93 s5.1) c25.1 c25.2 s5 (by decide) rfl ?_
            refine jw_iret jM150 jq150_11 (fun z => absurd z (by decide)) ?_
            show jb_w (d + 2) 226 52 [some (.ref 92), some (jb_v l1), some (jb_v l2), some (jb_v l3), some (jb_v l4), some (jb_v x3), none] [(jb_v (G 93 ((67 * x3) + 2)))] σ5 Q
            refine jw_if (p := 55) rfl jM226 jq226_52 (jc_ne (s.r _ _) jb_r0) (fun c26 => ?_) (fun c26 => ?_)
            · have h26 := jo_n c26 h25
              refine jaL0 (p := 58) rfl jM226 jq226_57 ?_
              refine jiL5 (p := 60) rfl jM226 jq226_58 ?_
              refine jw_callV [(jb_v x3)] jM226 jq226_60 rfl rfl (jo_92 s5.1) rfl jM149 rfl rfl ?_
              show jb_w (d + 1) 149 0 [some (.ref 92), some (jb_v x3)] [] σ5 (jb_k (d + 2) 226 60 [some (.ref 92), some (jb_v l1), some (jb_v l2), some (jb_v l3), some (jb_v l4), some (jb_v x3), none] [] Q)
              refine jaL0 (p := 1) rfl jM149 jq149_0 ?_
              refine jw_getP (p := 4) (i := 1) (q := 93) rfl jM149 jq149_1 rfl (jo_92 s5.1) je_11_1 (jp_92_1 s5.1) ?_
              refine jw_bipush (p := 6) rfl jM149 jq149_4 (by decide) ?_
              refine jiL1 (p := 7) rfl jM149 jq149_6 ?_
              refine jw_imul (p := 8) rfl jM149 jq149_7 ?_
              refine jg_iald (p := 9) rfl jM149 jq149_8 (ja_93 s5.1) c8.1 c8.2 s5 (by decide) rfl ?_
              refine jw_iret jM149 jq149_9 (fun z => absurd z (by decide)) ?_
              show jb_w (d + 2) 226 63 [some (.ref 92), some (jb_v l1), some (jb_v l2), some (jb_v l3), some (jb_v l4), some (jb_v x3), none] [(jb_v (G 93 (67 * x3)))] σ5 Q
              refine jw_iconst (p := 64) rfl jM226 jq226_63 ?_
              refine jw_ic (p := 67) rfl jM226 jq226_64 (jc_ne (s.r _ _) (jb_rn rfl)) (fun c27 => ?_) (fun c27 => ?_)
              · have h27 := jo_n c27 h26
                refine jaL0 (p := 104) rfl jM226 jq226_103 ?_
                refine jiL5 (p := 106) rfl jM226 jq226_104 ?_
                refine jiL1 (p := 107) rfl jM226 jq226_106 ?_
                refine jw_callV [(jb_v x3), (jb_v l1)] jM226 jq226_107 rfl rfl (jo_92 s5.1) rfl jM159 rfl rfl ?_
                obtain ⟨c28, h28⟩ := jo_i h27
                obtain ⟨c29, h29⟩ := jo_i h28
                obtain ⟨x30, e31, h31⟩ := jo_lb h29
                refine cs159 c28 c29 hl1 (fun σ30 s30 r30 => ?_) σ5 s5
                rw [e31] at r30 ⊢
                show jb_w (d + 2) 226 110 [some (.ref 92), some (jb_v l1), some (jb_v l2), some (jb_v l3), some (jb_v l4), some (jb_v x3), none] [(jb_v x30)] σ30 Q
                refine jiS3 (p := 111) rfl jM226 jq226_110 ?_
                refine jiI4 (p := 114) rfl jM226 jq226_111 ?_
                refine jw_goto jM226 jq226_114 ?_
                obtain ⟨c32, h32⟩ := jo_i h31
                exact ih hl1 hl2 r30 c32 h32 k σ30 s30
              · have h27 := jo_p (Decidable.byContradiction c27) h26
                refine jaL0 (p := 68) rfl jM226 jq226_67 ?_
                refine jiL5 (p := 70) rfl jM226 jq226_68 ?_
                refine jiL1 (p := 71) rfl jM226 jq226_70 ?_
                refine jw_callV [(jb_v x3), (jb_v l1)] jM226 jq226_71 rfl rfl (jo_92 s5.1) rfl jM158 rfl rfl ?_
                obtain ⟨c33, h33⟩ := jo_i h27
                obtain ⟨c34, h34⟩ := jo_i h33
                obtain ⟨x35, e36, h36⟩ := jo_lb h34
                refine cs158 c33 c34 hl1 (fun σ35 s35 r35 => ?_) σ5 s5
                rw [e36] at r35 ⊢
                show jb_w (d + 2) 226 74 [some (.ref 92), some (jb_v l1), some (jb_v l2), some (jb_v l3), some (jb_v l4), some (jb_v x3), none] [(jb_v x35)] σ35 Q
                refine jiS6 (p := 76) rfl jM226 jq226_74 ?_
                refine jiL2 (p := 77) rfl jM226 jq226_76 ?_
                refine jiL6 (p := 79) rfl jM226 jq226_77 ?_
                refine jw_if (p := 82) rfl jM226 jq226_79 (jc_ge r35 jb_r0) (fun c37 => ?_) (fun c37 => ?_)
                · have h37 := jo_p c37 h36
                  refine jaL0 (p := 87) rfl jM226 jq226_86 ?_
                  refine jiL5 (p := 89) rfl jM226 jq226_87 ?_
                  refine jiL6 (p := 91) rfl jM226 jq226_89 ?_
                  refine jw_callV [(jb_v x3), (jb_v x35)] jM226 jq226_91 rfl rfl (jo_92 s35.1) rfl jM152 rfl rfl ?_
                  show jb_w (d + 1) 152 0 [some (.ref 92), some (jb_v x3), some (jb_v x35)] [] σ35 (jb_k (d + 2) 226 91 [some (.ref 92), some (jb_v l1), some (jb_v l2), some (jb_v l3), some (jb_v l4), some (jb_v x3), some (jb_v x35)] [(jb_v l2)] Q)
                  refine jaL0 (p := 1) rfl jM152 jq152_0 ?_
                  refine jw_getP (p := 4) (i := 1) (q := 93) rfl jM152 jq152_1 rfl (jo_92 s35.1) je_11_1 (jp_92_1 s35.1) ?_
                  refine jw_bipush (p := 6) rfl jM152 jq152_4 (by decide) ?_
                  refine jiL1 (p := 7) rfl jM152 jq152_6 ?_
                  refine jw_imul (p := 8) rfl jM152 jq152_7 ?_
                  refine jw_iconst (p := 9) rfl jM152 jq152_8 ?_
                  refine jw_iadd (p := 10) rfl jM152 jq152_9 ?_
                  refine jw_iconst (p := 11) rfl jM152 jq152_10 ?_
                  refine jiL2 (p := 12) rfl jM152 jq152_11 ?_
                  refine jw_imul (p := 13) rfl jM152 jq152_12 ?_
                  refine jw_iadd (p := 14) rfl jM152 jq152_13 ?_
                  obtain ⟨c38, h38⟩ := jo_i h37
                  refine jg_iald (p := 15) rfl jM152 jq152_14 (ja_93 s35.1) c38.1 c38.2 s35 (by decide) rfl ?_
                  refine jw_iret jM152 jq152_15 (fun z => absurd z (by decide)) ?_
                  show jb_w (d + 2) 226 94 [some (.ref 92), some (jb_v l1), some (jb_v l2), some (jb_v l3), some (jb_v l4), some (jb_v x3), some (jb_v x35)] [(jb_v (G 93 (((67 * x3) + 4) + (2 * x35)))), (jb_v l2)] σ35 Q
                  refine jw_ic (p := 97) rfl jM226 jq226_94 (jc_ne hl2 (s.r _ _)) (fun c39 => ?_) (fun c39 => ?_)
                  · have h39 := jo_n c39 h38
                    refine jw_iconst (p := 102) rfl jM226 jq226_101 ?_
                    cases h39
                    exact jw_iret jM226 jq226_102 (fun _ => Or.inl rfl) (k σ35 s35 (jb_rn rfl))
                  · have h39 := jo_p (Decidable.byContradiction c39) h38
                    refine jw_iconst (p := 98) rfl jM226 jq226_97 ?_
                    refine jw_goto jM226 jq226_98 ?_
                    cases h39
                    exact jw_iret jM226 jq226_102 (fun _ => Or.inr rfl) (k σ35 s35 (jb_rn rfl))
                · have h37 := jo_n c37 h36
                  refine jw_iconst (p := 83) rfl jM226 jq226_82 ?_
                  refine jw_goto jM226 jq226_83 ?_
                  refine jw_ic (p := 97) rfl jM226 jq226_94 (jc_ne hl2 (jb_rn rfl)) (fun c40 => ?_) (fun c40 => ?_)
                  · have h40 := jo_n c40 h37
                    refine jw_iconst (p := 102) rfl jM226 jq226_101 ?_
                    cases h40
                    exact jw_iret jM226 jq226_102 (fun _ => Or.inl rfl) (k σ35 s35 (jb_rn rfl))
                  · have h40 := jo_p (Decidable.byContradiction c40) h37
                    refine jw_iconst (p := 98) rfl jM226 jq226_97 ?_
                    refine jw_goto jM226 jq226_98 ?_
                    cases h40
                    exact jw_iret jM226 jq226_102 (fun _ => Or.inr rfl) (k σ35 s35 (jb_rn rfl))
            · have h26 := jo_p (Decidable.byContradiction c26) h25
              refine jw_iconst (p := 56) rfl jM226 jq226_55 ?_
              cases h26
              exact jw_iret jM226 jq226_56 (fun _ => Or.inl rfl) (k σ5 s5 (jb_rn rfl))
def fo226 (G : jg_G) (l1 : Int) (l2 : Int) : Option (jg_G × Int) := fo226_5 jo_N G l1 l2 0 0
theorem jf226 {d : Nat} {σ0 : ib_H} {Q : ib_O → Prop} {G : jg_G} {l1 : Int} {l2 : Int} (hl1 : jb_r l1) (hl2 : jb_r l2) {r : jg_G × Int} (h : fo226 G l1 l2 = some r) (k : ∀ σ, jg_S σ0 r.1 σ → jb_r r.2 → Q (.inl (some (jb_v r.2)), σ)) : jg_W σ0 G (d + 2) 226 0 [some (.ref 92), some (jb_v l1), some (jb_v l2), none, none, none, none] [] Q := by
  intro σ s
  unfold fo226 at h
  refine jw_iconst (p := 1) rfl jM226 jq226_0 ?_
  refine jiS3 (p := 2) rfl jM226 jq226_1 ?_
  refine jw_iconst (p := 3) rfl jM226 jq226_2 ?_
  refine jiS4 (p := 5) rfl jM226 jq226_3 ?_
  exact jf226_5 jo_N hl1 hl2 (jb_rn rfl) (jb_rn rfl) h k σ s
-- 227 agrees need 3
def fo227_9 : Nat → jg_G → Int → Int → Option (jg_G × Int)
  | 0, _, _, _ => none
  | m + 1, G, l1, l2 => if 32 ≤ l2 then (if l1 = 0 ∨ l1 = 1 then some (G, l1) else none) else (if l1 = 0 then (if l1 = 0 ∨ l1 = 1 then some (G, l1) else none) else (if 0 ≤ l2 ∧ l2 < 32 then if G 111 l2 = (-1) then ((fo224 G l2).bind fun x8 => (fo226 (x8.1) l2 (x8.2)).bind fun x10 => if x10.2 = 0 then (if -2147483648 ≤ (l2 + 1) ∧ (l2 + 1) < 2147483648 then fo227_9 m (x10.1) 0 (l2 + 1) else none) else (if -2147483648 ≤ (l2 + 1) ∧ (l2 + 1) < 2147483648 then fo227_9 m (x10.1) 1 (l2 + 1) else none)) else (if -2147483648 ≤ (l2 + 1) ∧ (l2 + 1) < 2147483648 then fo227_9 m G 1 (l2 + 1) else none) else none))
theorem jf227_9 {d : Nat} {σ0 : ib_H} {Q : ib_O → Prop} : ∀ (m : Nat) {G : jg_G} {l1 : Int} {l2 : Int} (hl1 : jb_r l1) (hl2 : jb_r l2) {r : jg_G × Int} (h : fo227_9 m G l1 l2 = some r) (k : ∀ σ, jg_S σ0 r.1 σ → jb_r r.2 → Q (.inl (some (jb_v r.2)), σ)), jg_W σ0 G (d + 3) 227 9 [some (.ref 92), some (jb_v l1), some (jb_v l2)] [] Q := by
  intro m
  induction m with
  | zero =>
    intro G l1 l2 hl1 hl2 r h k
    cases h
  | succ m ih =>
    intro G l1 l2 hl1 hl2 r h k σ s
    unfold fo227_9 at h
    refine jiL2 (p := 10) rfl jM227 jq227_9 ?_
    refine jw_bipush (p := 12) rfl jM227 jq227_10 (by decide) ?_
    refine jw_ic (p := 15) rfl jM227 jq227_12 (jc_ge hl2 (jb_rn rfl)) (fun c1 => ?_) (fun c1 => ?_)
    · have h1 := jo_p c1 h
      refine jiL1 (p := 55) rfl jM227 jq227_54 ?_
      obtain ⟨c2, h2⟩ := jo_i h1
      cases h2
      exact jw_iret jM227 jq227_55 (fun _ => c2) (k σ s hl1)
    · have h1 := jo_n c1 h
      refine jiL1 (p := 16) rfl jM227 jq227_15 ?_
      refine jw_if (p := 19) rfl jM227 jq227_16 (jc_eq hl1 jb_r0) (fun c3 => ?_) (fun c3 => ?_)
      · have h3 := jo_p c3 h1
        refine jiL1 (p := 55) rfl jM227 jq227_54 ?_
        obtain ⟨c4, h4⟩ := jo_i h3
        cases h4
        exact jw_iret jM227 jq227_55 (fun _ => c4) (k σ s hl1)
      · have h3 := jo_n c3 h1
        refine jaL0 (p := 20) rfl jM227 jq227_19 ?_
        refine jw_getP (p := 23) (i := 27) (q := 111) rfl jM227 jq227_20 rfl (jo_92 s.1) je_11_27 (jp_92_27 s.1) ?_
        refine jiL2 (p := 24) rfl jM227 jq227_23 ?_
        obtain ⟨c5, h5⟩ := jo_i h3
        refine jg_iald (p := 25) rfl jM227 jq227_24 (ja_111 s.1) c5.1 c5.2 s (by decide) rfl ?_
        refine jw_iconst (p := 26) rfl jM227 jq227_25 ?_
        refine jw_ic (p := 29) rfl jM227 jq227_26 (jc_ne (s.r _ _) (jb_rn rfl)) (fun c6 => ?_) (fun c6 => ?_)
        · have h6 := jo_n c6 h5
          refine jw_iconst (p := 43) rfl jM227 jq227_42 ?_
          refine jw_goto jM227 jq227_43 ?_
          refine jiS1 (p := 48) rfl jM227 jq227_47 ?_
          refine jiI2 (p := 51) rfl jM227 jq227_48 ?_
          refine jw_goto jM227 jq227_51 ?_
          obtain ⟨c7, h7⟩ := jo_i h6
          exact ih (jb_rn rfl) c7 h7 k σ s
        · have h6 := jo_p (Decidable.byContradiction c6) h5
          refine jaL0 (p := 30) rfl jM227 jq227_29 ?_
          refine jiL2 (p := 31) rfl jM227 jq227_30 ?_
          refine jaL0 (p := 32) rfl jM227 jq227_31 ?_
          refine jiL2 (p := 33) rfl jM227 jq227_32 ?_
          refine jw_callV [(jb_v l2)] jM227 jq227_33 rfl rfl (jo_92 s.1) rfl jM224 rfl rfl ?_
          obtain ⟨x8, b9, h9⟩ := jo_b h6
          refine jf224 hl2 b9 (fun σ8 s8 r8 => ?_) σ s
          show jb_w (d + 3) 227 36 [some (.ref 92), some (jb_v l1), some (jb_v l2)] [(jb_v (x8.2)), (jb_v l2), (.ref 92)] σ8 Q
          refine jw_callV [(jb_v l2), (jb_v (x8.2))] jM227 jq227_36 rfl rfl (jo_92 s8.1) rfl jM226 rfl rfl ?_
          obtain ⟨x10, b11, h11⟩ := jo_b h9
          refine jf226 hl2 r8 b11 (fun σ10 s10 r10 => ?_) σ8 s8
          show jb_w (d + 3) 227 39 [some (.ref 92), some (jb_v l1), some (jb_v l2)] [(jb_v (x10.2))] σ10 Q
          refine jw_if (p := 42) rfl jM227 jq227_39 (jc_eq r10 jb_r0) (fun c12 => ?_) (fun c12 => ?_)
          · have h12 := jo_p c12 h11
            refine jw_iconst (p := 47) rfl jM227 jq227_46 ?_
            refine jiS1 (p := 48) rfl jM227 jq227_47 ?_
            refine jiI2 (p := 51) rfl jM227 jq227_48 ?_
            refine jw_goto jM227 jq227_51 ?_
            obtain ⟨c13, h13⟩ := jo_i h12
            exact ih (jb_rn rfl) c13 h13 k σ10 s10
          · have h12 := jo_n c12 h11
            refine jw_iconst (p := 43) rfl jM227 jq227_42 ?_
            refine jw_goto jM227 jq227_43 ?_
            refine jiS1 (p := 48) rfl jM227 jq227_47 ?_
            refine jiI2 (p := 51) rfl jM227 jq227_48 ?_
            refine jw_goto jM227 jq227_51 ?_
            obtain ⟨c14, h14⟩ := jo_i h12
            exact ih (jb_rn rfl) c14 h14 k σ10 s10
def fo227 (G : jg_G) : Option (jg_G × Int) := fo227_9 jo_N (jg_u G 92 0 0) 1 0
theorem jf227 {d : Nat} {σ0 : ib_H} {Q : ib_O → Prop} {G : jg_G} {r : jg_G × Int} (h : fo227 G  = some r) (k : ∀ σ, jg_S σ0 r.1 σ → jb_r r.2 → Q (.inl (some (jb_v r.2)), σ)) : jg_W σ0 G (d + 3) 227 0 [some (.ref 92), none, none] [] Q := by
  intro σ s
  unfold fo227 at h
  refine jaL0 (p := 1) rfl jM227 jq227_0 ?_
  refine jw_iconst (p := 2) rfl jM227 jq227_1 ?_
  refine jg_putI (p := 5) (i := 0) rfl jM227 jq227_2 rfl (jo_92 s.1) (Or.inl jz_11_0) s (by decide) (by decide) (jb_rn rfl) ?_
  intro σ1 s1
  refine jw_iconst (p := 6) rfl jM227 jq227_5 ?_
  refine jiS1 (p := 7) rfl jM227 jq227_6 ?_
  refine jw_iconst (p := 8) rfl jM227 jq227_7 ?_
  refine jiS2 (p := 9) rfl jM227 jq227_8 ?_
  exact jf227_9 jo_N (jb_rn rfl) (jb_rn rfl) h k σ1 s1
-- 228 lesser need 0
def fo228 (G : jg_G) (l0 : Int) (l1 : Int) : Option (jg_G × Int) := if l1 ≤ l0 then (some (G, l1)) else (some (G, l0))
theorem jf228 {d : Nat} {σ0 : ib_H} {Q : ib_O → Prop} {G : jg_G} {l0 : Int} {l1 : Int} (hl0 : jb_r l0) (hl1 : jb_r l1) {r : jg_G × Int} (h : fo228 G l0 l1 = some r) (k : ∀ σ, jg_S σ0 r.1 σ → jb_r r.2 → Q (.inl (some (jb_v r.2)), σ)) : jg_W σ0 G d 228 0 [some (jb_v l0), some (jb_v l1)] [] Q := by
  intro σ s
  unfold fo228 at h
  refine jiL0 (p := 1) rfl jM228 jq228_0 ?_
  refine jiL1 (p := 2) rfl jM228 jq228_1 ?_
  refine jw_ic (p := 5) rfl jM228 jq228_2 (jc_ge hl0 hl1) (fun c1 => ?_) (fun c1 => ?_)
  · have h1 := jo_p c1 h
    refine jiL1 (p := 10) rfl jM228 jq228_9 ?_
    cases h1
    exact jw_iret jM228 jq228_10 (fun z => absurd z (by decide)) (k σ s hl1)
  · have h1 := jo_n c1 h
    refine jiL0 (p := 6) rfl jM228 jq228_5 ?_
    refine jw_goto jM228 jq228_6 ?_
    cases h1
    exact jw_iret jM228 jq228_10 (fun z => absurd z (by decide)) (k σ s hl0)
-- 229 isRight need 1
def fo229_31 : Nat → jg_G → Int → Int → Int → Int → Int → Int → Option (jg_G × Int)
  | 0, _, _, _, _, _, _, _ => none
  | m + 1, G, l1, l2, l3, l4, l5, l6 => if 0 ≤ ((67 * l1) + 2) ∧ ((67 * l1) + 2) < 305118 then if G 93 ((67 * l1) + 2) ≤ l6 then (if l4 = 0 ∨ l4 = 1 then some (G, l4) else none) else (if l4 = 0 then (if -2147483648 ≤ (l6 + 1) ∧ (l6 + 1) < 2147483648 then fo229_31 m G l1 l2 l3 0 l5 (l6 + 1) else none) else (if 0 ≤ (((67 * l1) + 3) + (2 * l6)) ∧ (((67 * l1) + 3) + (2 * l6)) < 305118 then if G 93 (((67 * l1) + 3) + (2 * l6)) < l2 then (if -2147483648 ≤ (l6 + 1) ∧ (l6 + 1) < 2147483648 then fo229_31 m G l1 l2 l3 0 l5 (l6 + 1) else none) else (if l3 ≤ G 93 (((67 * l1) + 3) + (2 * l6)) then (if -2147483648 ≤ (l6 + 1) ∧ (l6 + 1) < 2147483648 then fo229_31 m G l1 l2 l3 0 l5 (l6 + 1) else none) else (if l5 = 0 then (if l6 = 1 then (if -2147483648 ≤ (l6 + 1) ∧ (l6 + 1) < 2147483648 then fo229_31 m G l1 l2 l3 1 l5 (l6 + 1) else none) else (if 0 ≤ (((67 * l1) + 3) + (2 * (l6 - 1))) ∧ (((67 * l1) + 3) + (2 * (l6 - 1))) < 305118 then if G 93 (((67 * l1) + 3) + (2 * l6)) ≤ G 93 (((67 * l1) + 3) + (2 * (l6 - 1))) then (if -2147483648 ≤ (l6 + 1) ∧ (l6 + 1) < 2147483648 then fo229_31 m G l1 l2 l3 0 l5 (l6 + 1) else none) else (if -2147483648 ≤ (l6 + 1) ∧ (l6 + 1) < 2147483648 then fo229_31 m G l1 l2 l3 1 l5 (l6 + 1) else none) else none)) else (if l6 = 0 then (if -2147483648 ≤ (l6 + 1) ∧ (l6 + 1) < 2147483648 then fo229_31 m G l1 l2 l3 1 l5 (l6 + 1) else none) else (if 0 ≤ (((67 * l1) + 3) + (2 * (l6 - 1))) ∧ (((67 * l1) + 3) + (2 * (l6 - 1))) < 305118 then if G 93 (((67 * l1) + 3) + (2 * l6)) ≤ G 93 (((67 * l1) + 3) + (2 * (l6 - 1))) then (if -2147483648 ≤ (l6 + 1) ∧ (l6 + 1) < 2147483648 then fo229_31 m G l1 l2 l3 0 l5 (l6 + 1) else none) else (if -2147483648 ≤ (l6 + 1) ∧ (l6 + 1) < 2147483648 then fo229_31 m G l1 l2 l3 1 l5 (l6 + 1) else none) else none)))) else none)) else none
theorem jf229_31 {d : Nat} {σ0 : ib_H} {Q : ib_O → Prop} : ∀ (m : Nat) {G : jg_G} {l1 : Int} {l2 : Int} {l3 : Int} {l4 : Int} {l5 : Int} {l6 : Int} (hl1 : jb_r l1) (hl2 : jb_r l2) (hl3 : jb_r l3) (hl4 : jb_r l4) (hl5 : jb_r l5) (hl6 : jb_r l6) {r : jg_G × Int} (h : fo229_31 m G l1 l2 l3 l4 l5 l6 = some r) (k : ∀ σ, jg_S σ0 r.1 σ → jb_r r.2 → Q (.inl (some (jb_v r.2)), σ)), jg_W σ0 G (d + 1) 229 31 [some (.ref 92), some (jb_v l1), some (jb_v l2), some (jb_v l3), some (jb_v l4), some (jb_v l5), some (jb_v l6)] [] Q := by
  intro m
  induction m with
  | zero =>
    intro G l1 l2 l3 l4 l5 l6 hl1 hl2 hl3 hl4 hl5 hl6 r h k
    cases h
  | succ m ih =>
    intro G l1 l2 l3 l4 l5 l6 hl1 hl2 hl3 hl4 hl5 hl6 r h k σ s
    unfold fo229_31 at h
    refine jiL6 (p := 33) rfl jM229 jq229_31 ?_
    refine jaL0 (p := 34) rfl jM229 jq229_33 ?_
    refine jiL1 (p := 35) rfl jM229 jq229_34 ?_
    refine jw_callV [(jb_v l1)] jM229 jq229_35 rfl rfl (jo_92 s.1) rfl jM150 rfl rfl ?_
    show jb_w d 150 0 [some (.ref 92), some (jb_v l1)] [] σ (jb_k (d + 1) 229 35 [some (.ref 92), some (jb_v l1), some (jb_v l2), some (jb_v l3), some (jb_v l4), some (jb_v l5), some (jb_v l6)] [(jb_v l6)] Q)
    refine jaL0 (p := 1) rfl jM150 jq150_0 ?_
    refine jw_getP (p := 4) (i := 1) (q := 93) rfl jM150 jq150_1 rfl (jo_92 s.1) je_11_1 (jp_92_1 s.1) ?_
    refine jw_bipush (p := 6) rfl jM150 jq150_4 (by decide) ?_
    refine jiL1 (p := 7) rfl jM150 jq150_6 ?_
    refine jw_imul (p := 8) rfl jM150 jq150_7 ?_
    refine jw_iconst (p := 9) rfl jM150 jq150_8 ?_
    refine jw_iadd (p := 10) rfl jM150 jq150_9 ?_
    obtain ⟨c1, h1⟩ := jo_i h
    refine jg_iald (p := 11) rfl jM150 jq150_10 (ja_93 s.1) c1.1 c1.2 s (by decide) rfl ?_
    refine jw_iret jM150 jq150_11 (fun z => absurd z (by decide)) ?_
    show jb_w (d + 1) 229 38 [some (.ref 92), some (jb_v l1), some (jb_v l2), some (jb_v l3), some (jb_v l4), some (jb_v l5), some (jb_v l6)] [(jb_v (G 93 ((67 * l1) + 2))), (jb_v l6)] σ Q
    refine jw_ic (p := 41) rfl jM229 jq229_38 (jc_ge hl6 (s.r _ _)) (fun c2 => ?_) (fun c2 => ?_)
    · have h2 := jo_p c2 h1
      refine jiL4 (p := 117) rfl jM229 jq229_115 ?_
      obtain ⟨c3, h3⟩ := jo_i h2
      cases h3
      exact jw_iret jM229 jq229_117 (fun _ => c3) (k σ s hl4)
    · have h2 := jo_n c2 h1
      refine jiL4 (p := 43) rfl jM229 jq229_41 ?_
      refine jw_if (p := 46) rfl jM229 jq229_43 (jc_eq hl4 jb_r0) (fun c4 => ?_) (fun c4 => ?_)
      · have h4 := jo_p c4 h2
        refine jw_iconst (p := 107) rfl jM229 jq229_106 ?_
        refine jiS4 (p := 109) rfl jM229 jq229_107 ?_
        refine jiI6 (p := 112) rfl jM229 jq229_109 ?_
        refine jw_goto jM229 jq229_112 ?_
        obtain ⟨c5, h5⟩ := jo_i h4
        exact ih hl1 hl2 hl3 (jb_rn rfl) hl5 c5 h5 k σ s
      · have h4 := jo_n c4 h2
        refine jaL0 (p := 47) rfl jM229 jq229_46 ?_
        refine jiL1 (p := 48) rfl jM229 jq229_47 ?_
        refine jiL6 (p := 50) rfl jM229 jq229_48 ?_
        refine jw_callV [(jb_v l1), (jb_v l6)] jM229 jq229_50 rfl rfl (jo_92 s.1) rfl jM151 rfl rfl ?_
        show jb_w d 151 0 [some (.ref 92), some (jb_v l1), some (jb_v l6)] [] σ (jb_k (d + 1) 229 50 [some (.ref 92), some (jb_v l1), some (jb_v l2), some (jb_v l3), some (jb_v l4), some (jb_v l5), some (jb_v l6)] [] Q)
        refine jaL0 (p := 1) rfl jM151 jq151_0 ?_
        refine jw_getP (p := 4) (i := 1) (q := 93) rfl jM151 jq151_1 rfl (jo_92 s.1) je_11_1 (jp_92_1 s.1) ?_
        refine jw_bipush (p := 6) rfl jM151 jq151_4 (by decide) ?_
        refine jiL1 (p := 7) rfl jM151 jq151_6 ?_
        refine jw_imul (p := 8) rfl jM151 jq151_7 ?_
        refine jw_iconst (p := 9) rfl jM151 jq151_8 ?_
        refine jw_iadd (p := 10) rfl jM151 jq151_9 ?_
        refine jw_iconst (p := 11) rfl jM151 jq151_10 ?_
        refine jiL2 (p := 12) rfl jM151 jq151_11 ?_
        refine jw_imul (p := 13) rfl jM151 jq151_12 ?_
        refine jw_iadd (p := 14) rfl jM151 jq151_13 ?_
        obtain ⟨c6, h6⟩ := jo_i h4
        refine jg_iald (p := 15) rfl jM151 jq151_14 (ja_93 s.1) c6.1 c6.2 s (by decide) rfl ?_
        refine jw_iret jM151 jq151_15 (fun z => absurd z (by decide)) ?_
        show jb_w (d + 1) 229 53 [some (.ref 92), some (jb_v l1), some (jb_v l2), some (jb_v l3), some (jb_v l4), some (jb_v l5), some (jb_v l6)] [(jb_v (G 93 (((67 * l1) + 3) + (2 * l6))))] σ Q
        refine jiL2 (p := 54) rfl jM229 jq229_53 ?_
        refine jw_ic (p := 57) rfl jM229 jq229_54 (jc_lt (s.r _ _) hl2) (fun c7 => ?_) (fun c7 => ?_)
        · have h7 := jo_p c7 h6
          refine jw_iconst (p := 107) rfl jM229 jq229_106 ?_
          refine jiS4 (p := 109) rfl jM229 jq229_107 ?_
          refine jiI6 (p := 112) rfl jM229 jq229_109 ?_
          refine jw_goto jM229 jq229_112 ?_
          obtain ⟨c8, h8⟩ := jo_i h7
          exact ih hl1 hl2 hl3 (jb_rn rfl) hl5 c8 h8 k σ s
        · have h7 := jo_n c7 h6
          refine jaL0 (p := 58) rfl jM229 jq229_57 ?_
          refine jiL1 (p := 59) rfl jM229 jq229_58 ?_
          refine jiL6 (p := 61) rfl jM229 jq229_59 ?_
          refine jw_callV [(jb_v l1), (jb_v l6)] jM229 jq229_61 rfl rfl (jo_92 s.1) rfl jM151 rfl rfl ?_
          show jb_w d 151 0 [some (.ref 92), some (jb_v l1), some (jb_v l6)] [] σ (jb_k (d + 1) 229 61 [some (.ref 92), some (jb_v l1), some (jb_v l2), some (jb_v l3), some (jb_v l4), some (jb_v l5), some (jb_v l6)] [] Q)
          refine jaL0 (p := 1) rfl jM151 jq151_0 ?_
          refine jw_getP (p := 4) (i := 1) (q := 93) rfl jM151 jq151_1 rfl (jo_92 s.1) je_11_1 (jp_92_1 s.1) ?_
          refine jw_bipush (p := 6) rfl jM151 jq151_4 (by decide) ?_
          refine jiL1 (p := 7) rfl jM151 jq151_6 ?_
          refine jw_imul (p := 8) rfl jM151 jq151_7 ?_
          refine jw_iconst (p := 9) rfl jM151 jq151_8 ?_
          refine jw_iadd (p := 10) rfl jM151 jq151_9 ?_
          refine jw_iconst (p := 11) rfl jM151 jq151_10 ?_
          refine jiL2 (p := 12) rfl jM151 jq151_11 ?_
          refine jw_imul (p := 13) rfl jM151 jq151_12 ?_
          refine jw_iadd (p := 14) rfl jM151 jq151_13 ?_
          refine jg_iald (p := 15) rfl jM151 jq151_14 (ja_93 s.1) c6.1 c6.2 s (by decide) rfl ?_
          refine jw_iret jM151 jq151_15 (fun z => absurd z (by decide)) ?_
          show jb_w (d + 1) 229 64 [some (.ref 92), some (jb_v l1), some (jb_v l2), some (jb_v l3), some (jb_v l4), some (jb_v l5), some (jb_v l6)] [(jb_v (G 93 (((67 * l1) + 3) + (2 * l6))))] σ Q
          refine jiL3 (p := 65) rfl jM229 jq229_64 ?_
          refine jw_ic (p := 68) rfl jM229 jq229_65 (jc_ge (s.r _ _) hl3) (fun c9 => ?_) (fun c9 => ?_)
          · have h9 := jo_p c9 h7
            refine jw_iconst (p := 107) rfl jM229 jq229_106 ?_
            refine jiS4 (p := 109) rfl jM229 jq229_107 ?_
            refine jiI6 (p := 112) rfl jM229 jq229_109 ?_
            refine jw_goto jM229 jq229_112 ?_
            obtain ⟨c10, h10⟩ := jo_i h9
            exact ih hl1 hl2 hl3 (jb_rn rfl) hl5 c10 h10 k σ s
          · have h9 := jo_n c9 h7
            refine jiL6 (p := 70) rfl jM229 jq229_68 ?_
            refine jiL5 (p := 72) rfl jM229 jq229_70 ?_
            refine jw_if (p := 75) rfl jM229 jq229_72 (jc_eq hl5 jb_r0) (fun c11 => ?_) (fun c11 => ?_)
            · have h11 := jo_p c11 h9
              refine jw_iconst (p := 80) rfl jM229 jq229_79 ?_
              refine jw_ic (p := 83) rfl jM229 jq229_80 (jc_eq hl6 (jb_rn rfl)) (fun c12 => ?_) (fun c12 => ?_)
              · have h12 := jo_p c12 h11
                refine jw_iconst (p := 103) rfl jM229 jq229_102 ?_
                refine jw_goto jM229 jq229_103 ?_
                refine jiS4 (p := 109) rfl jM229 jq229_107 ?_
                refine jiI6 (p := 112) rfl jM229 jq229_109 ?_
                refine jw_goto jM229 jq229_112 ?_
                obtain ⟨c13, h13⟩ := jo_i h12
                exact ih hl1 hl2 hl3 (jb_rn rfl) hl5 c13 h13 k σ s
              · have h12 := jo_n c12 h11
                refine jaL0 (p := 84) rfl jM229 jq229_83 ?_
                refine jiL1 (p := 85) rfl jM229 jq229_84 ?_
                refine jiL6 (p := 87) rfl jM229 jq229_85 ?_
                refine jw_callV [(jb_v l1), (jb_v l6)] jM229 jq229_87 rfl rfl (jo_92 s.1) rfl jM151 rfl rfl ?_
                show jb_w d 151 0 [some (.ref 92), some (jb_v l1), some (jb_v l6)] [] σ (jb_k (d + 1) 229 87 [some (.ref 92), some (jb_v l1), some (jb_v l2), some (jb_v l3), some (jb_v l4), some (jb_v l5), some (jb_v l6)] [] Q)
                refine jaL0 (p := 1) rfl jM151 jq151_0 ?_
                refine jw_getP (p := 4) (i := 1) (q := 93) rfl jM151 jq151_1 rfl (jo_92 s.1) je_11_1 (jp_92_1 s.1) ?_
                refine jw_bipush (p := 6) rfl jM151 jq151_4 (by decide) ?_
                refine jiL1 (p := 7) rfl jM151 jq151_6 ?_
                refine jw_imul (p := 8) rfl jM151 jq151_7 ?_
                refine jw_iconst (p := 9) rfl jM151 jq151_8 ?_
                refine jw_iadd (p := 10) rfl jM151 jq151_9 ?_
                refine jw_iconst (p := 11) rfl jM151 jq151_10 ?_
                refine jiL2 (p := 12) rfl jM151 jq151_11 ?_
                refine jw_imul (p := 13) rfl jM151 jq151_12 ?_
                refine jw_iadd (p := 14) rfl jM151 jq151_13 ?_
                refine jg_iald (p := 15) rfl jM151 jq151_14 (ja_93 s.1) c6.1 c6.2 s (by decide) rfl ?_
                refine jw_iret jM151 jq151_15 (fun z => absurd z (by decide)) ?_
                show jb_w (d + 1) 229 90 [some (.ref 92), some (jb_v l1), some (jb_v l2), some (jb_v l3), some (jb_v l4), some (jb_v l5), some (jb_v l6)] [(jb_v (G 93 (((67 * l1) + 3) + (2 * l6))))] σ Q
                refine jaL0 (p := 91) rfl jM229 jq229_90 ?_
                refine jiL1 (p := 92) rfl jM229 jq229_91 ?_
                refine jiL6 (p := 94) rfl jM229 jq229_92 ?_
                refine jw_iconst (p := 95) rfl jM229 jq229_94 ?_
                refine jw_isub (p := 96) rfl jM229 jq229_95 ?_
                refine jw_callV [(jb_v l1), (jb_v (l6 - 1))] jM229 jq229_96 rfl rfl (jo_92 s.1) rfl jM151 rfl rfl ?_
                show jb_w d 151 0 [some (.ref 92), some (jb_v l1), some (jb_v (l6 - 1))] [] σ (jb_k (d + 1) 229 96 [some (.ref 92), some (jb_v l1), some (jb_v l2), some (jb_v l3), some (jb_v l4), some (jb_v l5), some (jb_v l6)] [(jb_v (G 93 (((67 * l1) + 3) + (2 * l6))))] Q)
                refine jaL0 (p := 1) rfl jM151 jq151_0 ?_
                refine jw_getP (p := 4) (i := 1) (q := 93) rfl jM151 jq151_1 rfl (jo_92 s.1) je_11_1 (jp_92_1 s.1) ?_
                refine jw_bipush (p := 6) rfl jM151 jq151_4 (by decide) ?_
                refine jiL1 (p := 7) rfl jM151 jq151_6 ?_
                refine jw_imul (p := 8) rfl jM151 jq151_7 ?_
                refine jw_iconst (p := 9) rfl jM151 jq151_8 ?_
                refine jw_iadd (p := 10) rfl jM151 jq151_9 ?_
                refine jw_iconst (p := 11) rfl jM151 jq151_10 ?_
                refine jiL2 (p := 12) rfl jM151 jq151_11 ?_
                refine jw_imul (p := 13) rfl jM151 jq151_12 ?_
                refine jw_iadd (p := 14) rfl jM151 jq151_13 ?_
                obtain ⟨c14, h14⟩ := jo_i h12
                refine jg_iald (p := 15) rfl jM151 jq151_14 (ja_93 s.1) c14.1 c14.2 s (by decide) rfl ?_
                refine jw_iret jM151 jq151_15 (fun z => absurd z (by decide)) ?_
                show jb_w (d + 1) 229 99 [some (.ref 92), some (jb_v l1), some (jb_v l2), some (jb_v l3), some (jb_v l4), some (jb_v l5), some (jb_v l6)] [(jb_v (G 93 (((67 * l1) + 3) + (2 * (l6 - 1))))), (jb_v (G 93 (((67 * l1) + 3) + (2 * l6))))] σ Q
                refine jw_ic (p := 102) rfl jM229 jq229_99 (jc_le (s.r _ _) (s.r _ _)) (fun c15 => ?_) (fun c15 => ?_)
                · have h15 := jo_p c15 h14
                  refine jw_iconst (p := 107) rfl jM229 jq229_106 ?_
                  refine jiS4 (p := 109) rfl jM229 jq229_107 ?_
                  refine jiI6 (p := 112) rfl jM229 jq229_109 ?_
                  refine jw_goto jM229 jq229_112 ?_
                  obtain ⟨c16, h16⟩ := jo_i h15
                  exact ih hl1 hl2 hl3 (jb_rn rfl) hl5 c16 h16 k σ s
                · have h15 := jo_n c15 h14
                  refine jw_iconst (p := 103) rfl jM229 jq229_102 ?_
                  refine jw_goto jM229 jq229_103 ?_
                  refine jiS4 (p := 109) rfl jM229 jq229_107 ?_
                  refine jiI6 (p := 112) rfl jM229 jq229_109 ?_
                  refine jw_goto jM229 jq229_112 ?_
                  obtain ⟨c17, h17⟩ := jo_i h15
                  exact ih hl1 hl2 hl3 (jb_rn rfl) hl5 c17 h17 k σ s
            · have h11 := jo_n c11 h9
              refine jw_iconst (p := 76) rfl jM229 jq229_75 ?_
              refine jw_goto jM229 jq229_76 ?_
              refine jw_ic (p := 83) rfl jM229 jq229_80 (jc_eq hl6 (jb_rn rfl)) (fun c18 => ?_) (fun c18 => ?_)
              · have h18 := jo_p c18 h11
                refine jw_iconst (p := 103) rfl jM229 jq229_102 ?_
                refine jw_goto jM229 jq229_103 ?_
                refine jiS4 (p := 109) rfl jM229 jq229_107 ?_
                refine jiI6 (p := 112) rfl jM229 jq229_109 ?_
                refine jw_goto jM229 jq229_112 ?_
                obtain ⟨c19, h19⟩ := jo_i h18
                exact ih hl1 hl2 hl3 (jb_rn rfl) hl5 c19 h19 k σ s
              · have h18 := jo_n c18 h11
                refine jaL0 (p := 84) rfl jM229 jq229_83 ?_
                refine jiL1 (p := 85) rfl jM229 jq229_84 ?_
                refine jiL6 (p := 87) rfl jM229 jq229_85 ?_
                refine jw_callV [(jb_v l1), (jb_v l6)] jM229 jq229_87 rfl rfl (jo_92 s.1) rfl jM151 rfl rfl ?_
                show jb_w d 151 0 [some (.ref 92), some (jb_v l1), some (jb_v l6)] [] σ (jb_k (d + 1) 229 87 [some (.ref 92), some (jb_v l1), some (jb_v l2), some (jb_v l3), some (jb_v l4), some (jb_v l5), some (jb_v l6)] [] Q)
                refine jaL0 (p := 1) rfl jM151 jq151_0 ?_
                refine jw_getP (p := 4) (i := 1) (q := 93) rfl jM151 jq151_1 rfl (jo_92 s.1) je_11_1 (jp_92_1 s.1) ?_
                refine jw_bipush (p := 6) rfl jM151 jq151_4 (by decide) ?_
                refine jiL1 (p := 7) rfl jM151 jq151_6 ?_
                refine jw_imul (p := 8) rfl jM151 jq151_7 ?_
                refine jw_iconst (p := 9) rfl jM151 jq151_8 ?_
                refine jw_iadd (p := 10) rfl jM151 jq151_9 ?_
                refine jw_iconst (p := 11) rfl jM151 jq151_10 ?_
                refine jiL2 (p := 12) rfl jM151 jq151_11 ?_
                refine jw_imul (p := 13) rfl jM151 jq151_12 ?_
                refine jw_iadd (p := 14) rfl jM151 jq151_13 ?_
                refine jg_iald (p := 15) rfl jM151 jq151_14 (ja_93 s.1) c6.1 c6.2 s (by decide) rfl ?_
                refine jw_iret jM151 jq151_15 (fun z => absurd z (by decide)) ?_
                show jb_w (d + 1) 229 90 [some (.ref 92), some (jb_v l1), some (jb_v l2), some (jb_v l3), some (jb_v l4), some (jb_v l5), some (jb_v l6)] [(jb_v (G 93 (((67 * l1) + 3) + (2 * l6))))] σ Q
                refine jaL0 (p := 91) rfl jM229 jq229_90 ?_
                refine jiL1 (p := 92) rfl jM229 jq229_91 ?_
                refine jiL6 (p := 94) rfl jM229 jq229_92 ?_
                refine jw_iconst (p := 95) rfl jM229 jq229_94 ?_
                refine jw_isub (p := 96) rfl jM229 jq229_95 ?_
                refine jw_callV [(jb_v l1), (jb_v (l6 - 1))] jM229 jq229_96 rfl rfl (jo_92 s.1) rfl jM151 rfl rfl ?_
                show jb_w d 151 0 [some (.ref 92), some (jb_v l1), some (jb_v (l6 - 1))] [] σ (jb_k (d + 1) 229 96 [some (.ref 92), some (jb_v l1), some (jb_v l2), some (jb_v l3), some (jb_v l4), some (jb_v l5), some (jb_v l6)] [(jb_v (G 93 (((67 * l1) + 3) + (2 * l6))))] Q)
                refine jaL0 (p := 1) rfl jM151 jq151_0 ?_
                refine jw_getP (p := 4) (i := 1) (q := 93) rfl jM151 jq151_1 rfl (jo_92 s.1) je_11_1 (jp_92_1 s.1) ?_
                refine jw_bipush (p := 6) rfl jM151 jq151_4 (by decide) ?_
                refine jiL1 (p := 7) rfl jM151 jq151_6 ?_
                refine jw_imul (p := 8) rfl jM151 jq151_7 ?_
                refine jw_iconst (p := 9) rfl jM151 jq151_8 ?_
                refine jw_iadd (p := 10) rfl jM151 jq151_9 ?_
                refine jw_iconst (p := 11) rfl jM151 jq151_10 ?_
                refine jiL2 (p := 12) rfl jM151 jq151_11 ?_
                refine jw_imul (p := 13) rfl jM151 jq151_12 ?_
                refine jw_iadd (p := 14) rfl jM151 jq151_13 ?_
                obtain ⟨c20, h20⟩ := jo_i h18
                refine jg_iald (p := 15) rfl jM151 jq151_14 (ja_93 s.1) c20.1 c20.2 s (by decide) rfl ?_
                refine jw_iret jM151 jq151_15 (fun z => absurd z (by decide)) ?_
                show jb_w (d + 1) 229 99 [some (.ref 92), some (jb_v l1), some (jb_v l2), some (jb_v l3), some (jb_v l4), some (jb_v l5), some (jb_v l6)] [(jb_v (G 93 (((67 * l1) + 3) + (2 * (l6 - 1))))), (jb_v (G 93 (((67 * l1) + 3) + (2 * l6))))] σ Q
                refine jw_ic (p := 102) rfl jM229 jq229_99 (jc_le (s.r _ _) (s.r _ _)) (fun c21 => ?_) (fun c21 => ?_)
                · have h21 := jo_p c21 h20
                  refine jw_iconst (p := 107) rfl jM229 jq229_106 ?_
                  refine jiS4 (p := 109) rfl jM229 jq229_107 ?_
                  refine jiI6 (p := 112) rfl jM229 jq229_109 ?_
                  refine jw_goto jM229 jq229_112 ?_
                  obtain ⟨c22, h22⟩ := jo_i h21
                  exact ih hl1 hl2 hl3 (jb_rn rfl) hl5 c22 h22 k σ s
                · have h21 := jo_n c21 h20
                  refine jw_iconst (p := 103) rfl jM229 jq229_102 ?_
                  refine jw_goto jM229 jq229_103 ?_
                  refine jiS4 (p := 109) rfl jM229 jq229_107 ?_
                  refine jiI6 (p := 112) rfl jM229 jq229_109 ?_
                  refine jw_goto jM229 jq229_112 ?_
                  obtain ⟨c23, h23⟩ := jo_i h21
                  exact ih hl1 hl2 hl3 (jb_rn rfl) hl5 c23 h23 k σ s
def fo229 (G : jg_G) (l1 : Int) (l2 : Int) (l3 : Int) : Option (jg_G × Int) := if 0 ≤ (67 * l1) ∧ (67 * l1) < 305118 then if G 93 (67 * l1) = 1 then (fo229_31 jo_N G l1 l2 l3 1 1 0) else (fo229_31 jo_N G l1 l2 l3 1 0 1) else none
theorem jf229 {d : Nat} {σ0 : ib_H} {Q : ib_O → Prop} {G : jg_G} {l1 : Int} {l2 : Int} {l3 : Int} (hl1 : jb_r l1) (hl2 : jb_r l2) (hl3 : jb_r l3) {r : jg_G × Int} (h : fo229 G l1 l2 l3 = some r) (k : ∀ σ, jg_S σ0 r.1 σ → jb_r r.2 → Q (.inl (some (jb_v r.2)), σ)) : jg_W σ0 G (d + 1) 229 0 [some (.ref 92), some (jb_v l1), some (jb_v l2), some (jb_v l3), none, none, none] [] Q := by
  intro σ s
  unfold fo229 at h
  refine jw_iconst (p := 1) rfl jM229 jq229_0 ?_
  refine jiS4 (p := 3) rfl jM229 jq229_1 ?_
  refine jaL0 (p := 4) rfl jM229 jq229_3 ?_
  refine jiL1 (p := 5) rfl jM229 jq229_4 ?_
  refine jw_callV [(jb_v l1)] jM229 jq229_5 rfl rfl (jo_92 s.1) rfl jM149 rfl rfl ?_
  show jb_w d 149 0 [some (.ref 92), some (jb_v l1)] [] σ (jb_k (d + 1) 229 5 [some (.ref 92), some (jb_v l1), some (jb_v l2), some (jb_v l3), some (jb_v 1), none, none] [] Q)
  refine jaL0 (p := 1) rfl jM149 jq149_0 ?_
  refine jw_getP (p := 4) (i := 1) (q := 93) rfl jM149 jq149_1 rfl (jo_92 s.1) je_11_1 (jp_92_1 s.1) ?_
  refine jw_bipush (p := 6) rfl jM149 jq149_4 (by decide) ?_
  refine jiL1 (p := 7) rfl jM149 jq149_6 ?_
  refine jw_imul (p := 8) rfl jM149 jq149_7 ?_
  obtain ⟨c1, h1⟩ := jo_i h
  refine jg_iald (p := 9) rfl jM149 jq149_8 (ja_93 s.1) c1.1 c1.2 s (by decide) rfl ?_
  refine jw_iret jM149 jq149_9 (fun z => absurd z (by decide)) ?_
  show jb_w (d + 1) 229 8 [some (.ref 92), some (jb_v l1), some (jb_v l2), some (jb_v l3), some (jb_v 1), none, none] [(jb_v (G 93 (67 * l1)))] σ Q
  refine jw_iconst (p := 9) rfl jM229 jq229_8 ?_
  refine jw_ic (p := 12) rfl jM229 jq229_9 (jc_ne (s.r _ _) (jb_rn rfl)) (fun c2 => ?_) (fun c2 => ?_)
  · have h2 := jo_n c2 h1
    refine jw_iconst (p := 17) rfl jM229 jq229_16 ?_
    refine jiS5 (p := 19) rfl jM229 jq229_17 ?_
    refine jiL5 (p := 21) rfl jM229 jq229_19 ?_
    refine jw_if (p := 24) rfl jM229 jq229_21 (jc_eq (jb_rn rfl) jb_r0) (fun _ => ?_) (fun z => absurd (by decide) z)
    refine jw_iconst (p := 29) rfl jM229 jq229_28 ?_
    refine jiS6 (p := 31) rfl jM229 jq229_29 ?_
    exact jf229_31 jo_N hl1 hl2 hl3 (jb_rn rfl) (jb_rn rfl) (jb_rn rfl) h2 k σ s
  · have h2 := jo_p (Decidable.byContradiction c2) h1
    refine jw_iconst (p := 13) rfl jM229 jq229_12 ?_
    refine jw_goto jM229 jq229_13 ?_
    refine jiS5 (p := 19) rfl jM229 jq229_17 ?_
    refine jiL5 (p := 21) rfl jM229 jq229_19 ?_
    refine jw_if (p := 24) rfl jM229 jq229_21 (jc_eq (jb_rn rfl) jb_r0) (fun z => absurd z (by decide)) (fun _ => ?_)
    refine jw_iconst (p := 25) rfl jM229 jq229_24 ?_
    refine jw_goto jM229 jq229_25 ?_
    refine jiS6 (p := 31) rfl jM229 jq229_29 ?_
    exact jf229_31 jo_N hl1 hl2 hl3 (jb_rn rfl) (jb_rn rfl) (jb_rn rfl) h2 k σ s
-- 230 check need 2
def fo230_418 : Nat → jg_G → Int → Int → Int → Int → Option (jg_G × Int)
  | 0, _, _, _, _, _ => none
  | m + 1, G, l1, l2, l3, l4 => if 24 ≤ l4 then (if l1 = 9 then (some (G, 0)) else (some (G, l1))) else (if 0 ≤ l4 ∧ l4 < 24 then if G 118 l4 = 0 then (if 0 ≤ l4 ∧ l4 < 24 then jo_l (fr_to G l4) fun x7 => if x7 = 0 then (jo_l (fr_ro G l4) fun x11 => if 0 ≤ (67 * x11) ∧ (67 * x11) < 305118 then if G 93 (67 * x11) = 0 then (if -2147483648 ≤ (l4 + 1) ∧ (l4 + 1) < 2147483648 then fo230_418 m G l1 l2 l3 (l4 + 1) else none) else ((fo228 G l1 6).bind fun x16 => if -2147483648 ≤ (l4 + 1) ∧ (l4 + 1) < 2147483648 then fo230_418 m (x16.1) (x16.2) l2 l3 (l4 + 1) else none) else none) else (if -2147483648 ≤ (l4 + 1) ∧ (l4 + 1) < 2147483648 then fo230_418 m G l1 l2 l3 (l4 + 1) else none) else none) else (if -2147483648 ≤ (l4 + 1) ∧ (l4 + 1) < 2147483648 then fo230_418 m G l1 l2 l3 (l4 + 1) else none) else none)
theorem jf230_418 {d : Nat} {σ0 : ib_H} {Q : ib_O → Prop} : ∀ (m : Nat) {G : jg_G} {l1 : Int} {l2 : Int} {l3 : Int} {l4 : Int} {o5 : Option Value} {o6 : Option Value} {o7 : Option Value} {o8 : Option Value} {o9 : Option Value} (hl1 : jb_r l1) (hl2 : jb_r l2) (hl3 : jb_r l3) (hl4 : jb_r l4) {r : jg_G × Int} (h : fo230_418 m G l1 l2 l3 l4 = some r) (k : ∀ σ, jg_S σ0 r.1 σ → jb_r r.2 → Q (.inl (some (jb_v r.2)), σ)), jg_W σ0 G (d + 2) 230 418 [some (.ref 92), some (jb_v l1), some (jb_v l2), some (jb_v l3), some (jb_v l4), o5, o6, o7, o8, o9] [] Q := by
  intro m
  induction m with
  | zero =>
    intro G l1 l2 l3 l4 o5 o6 o7 o8 o9 hl1 hl2 hl3 hl4 r h k
    cases h
  | succ m ih =>
    intro G l1 l2 l3 l4 o5 o6 o7 o8 o9 hl1 hl2 hl3 hl4 r h k σ s
    unfold fo230_418 at h
    refine jiL4 (p := 420) rfl jM230 jq230_418 ?_
    refine jw_bipush (p := 422) rfl jM230 jq230_420 (by decide) ?_
    refine jw_ic (p := 425) rfl jM230 jq230_422 (jc_ge hl4 (jb_rn rfl)) (fun c1 => ?_) (fun c1 => ?_)
    · have h1 := jo_p c1 h
      refine jiL1 (p := 475) rfl jM230 jq230_474 ?_
      refine jw_bipush (p := 477) rfl jM230 jq230_475 (by decide) ?_
      refine jw_ic (p := 480) rfl jM230 jq230_477 (jc_ne hl1 (jb_rn rfl)) (fun c2 => ?_) (fun c2 => ?_)
      · have h2 := jo_n c2 h1
        refine jiL1 (p := 485) rfl jM230 jq230_484 ?_
        cases h2
        exact jw_iret jM230 jq230_485 (fun z => absurd z (by decide)) (k σ s hl1)
      · have h2 := jo_p (Decidable.byContradiction c2) h1
        refine jw_iconst (p := 481) rfl jM230 jq230_480 ?_
        refine jw_goto jM230 jq230_481 ?_
        cases h2
        exact jw_iret jM230 jq230_485 (fun z => absurd z (by decide)) (k σ s (jb_rn rfl))
    · have h1 := jo_n c1 h
      refine jaL0 (p := 426) rfl jM230 jq230_425 ?_
      refine jw_getP (p := 429) (i := 35) (q := 118) rfl jM230 jq230_426 rfl (jo_92 s.1) je_11_35 (jp_92_35 s.1) ?_
      refine jiL4 (p := 431) rfl jM230 jq230_429 ?_
      obtain ⟨c3, h3⟩ := jo_i h1
      refine jg_bald (p := 432) rfl jM230 jq230_431 (ja_118 s.1) c3.1 c3.2 s (by decide) rfl ?_
      refine jw_if (p := 435) rfl jM230 jq230_432 (jc_ne (s.r _ _) jb_r0) (fun c4 => ?_) (fun c4 => ?_)
      · have h4 := jo_n c4 h3
        refine jiL1 (p := 467) rfl jM230 jq230_466 ?_
        refine jiS1 (p := 468) rfl jM230 jq230_467 ?_
        refine jiI4 (p := 471) rfl jM230 jq230_468 ?_
        refine jw_goto jM230 jq230_471 ?_
        obtain ⟨c5, h5⟩ := jo_i h4
        exact ih hl1 hl2 hl3 c5 h5 k σ s
      · have h4 := jo_p (Decidable.byContradiction c4) h3
        refine jaL0 (p := 436) rfl jM230 jq230_435 ?_
        refine jiL4 (p := 438) rfl jM230 jq230_436 ?_
        refine jw_callV [(jb_v l4)] jM230 jq230_438 rfl rfl (jo_92 s.1) rfl jM162 rfl rfl ?_
        obtain ⟨c6, h6⟩ := jo_i h4
        obtain ⟨x7, e8, h8⟩ := jo_lb h6
        refine cs162 c6 (fun σ7 s7 r7 => ?_) σ s
        rw [e8] at r7 ⊢
        show jb_w (d + 2) 230 441 [some (.ref 92), some (jb_v l1), some (jb_v l2), some (jb_v l3), some (jb_v l4), o5, o6, o7, o8, o9] [(jb_v x7)] σ7 Q
        refine jw_if (p := 444) rfl jM230 jq230_441 (jc_ne r7 jb_r0) (fun c9 => ?_) (fun c9 => ?_)
        · have h9 := jo_n c9 h8
          refine jiL1 (p := 467) rfl jM230 jq230_466 ?_
          refine jiS1 (p := 468) rfl jM230 jq230_467 ?_
          refine jiI4 (p := 471) rfl jM230 jq230_468 ?_
          refine jw_goto jM230 jq230_471 ?_
          obtain ⟨c10, h10⟩ := jo_i h9
          exact ih hl1 hl2 hl3 c10 h10 k σ7 s7
        · have h9 := jo_p (Decidable.byContradiction c9) h8
          refine jaL0 (p := 445) rfl jM230 jq230_444 ?_
          refine jaL0 (p := 446) rfl jM230 jq230_445 ?_
          refine jiL4 (p := 448) rfl jM230 jq230_446 ?_
          refine jw_callV [(jb_v l4)] jM230 jq230_448 rfl rfl (jo_92 s7.1) rfl jM161 rfl rfl ?_
          obtain ⟨x11, e12, h12⟩ := jo_lb h9
          refine cs161 c6 (fun σ11 s11 r11 => ?_) σ7 s7
          rw [e12] at r11 ⊢
          show jb_w (d + 2) 230 451 [some (.ref 92), some (jb_v l1), some (jb_v l2), some (jb_v l3), some (jb_v l4), o5, o6, o7, o8, o9] [(jb_v x11), (.ref 92)] σ11 Q
          refine jw_callV [(jb_v x11)] jM230 jq230_451 rfl rfl (jo_92 s11.1) rfl jM149 rfl rfl ?_
          show jb_w (d + 1) 149 0 [some (.ref 92), some (jb_v x11)] [] σ11 (jb_k (d + 2) 230 451 [some (.ref 92), some (jb_v l1), some (jb_v l2), some (jb_v l3), some (jb_v l4), o5, o6, o7, o8, o9] [] Q)
          refine jaL0 (p := 1) rfl jM149 jq149_0 ?_
          refine jw_getP (p := 4) (i := 1) (q := 93) rfl jM149 jq149_1 rfl (jo_92 s11.1) je_11_1 (jp_92_1 s11.1) ?_
          refine jw_bipush (p := 6) rfl jM149 jq149_4 (by decide) ?_
          refine jiL1 (p := 7) rfl jM149 jq149_6 ?_
          refine jw_imul (p := 8) rfl jM149 jq149_7 ?_
          obtain ⟨c13, h13⟩ := jo_i h12
          refine jg_iald (p := 9) rfl jM149 jq149_8 (ja_93 s11.1) c13.1 c13.2 s11 (by decide) rfl ?_
          refine jw_iret jM149 jq149_9 (fun z => absurd z (by decide)) ?_
          show jb_w (d + 2) 230 454 [some (.ref 92), some (jb_v l1), some (jb_v l2), some (jb_v l3), some (jb_v l4), o5, o6, o7, o8, o9] [(jb_v (G 93 (67 * x11)))] σ11 Q
          refine jw_if (p := 457) rfl jM230 jq230_454 (jc_eq (s.r _ _) jb_r0) (fun c14 => ?_) (fun c14 => ?_)
          · have h14 := jo_p c14 h13
            refine jiL1 (p := 467) rfl jM230 jq230_466 ?_
            refine jiS1 (p := 468) rfl jM230 jq230_467 ?_
            refine jiI4 (p := 471) rfl jM230 jq230_468 ?_
            refine jw_goto jM230 jq230_471 ?_
            obtain ⟨c15, h15⟩ := jo_i h14
            exact ih hl1 hl2 hl3 c15 h15 k σ11 s11
          · have h14 := jo_n c14 h13
            refine jiL1 (p := 458) rfl jM230 jq230_457 ?_
            refine jw_bipush (p := 460) rfl jM230 jq230_458 (by decide) ?_
            refine jw_callS [(jb_v l1), (jb_v 6)] jM230 jq230_460 rfl rfl rfl jM228 rfl rfl ?_
            obtain ⟨x16, b17, h17⟩ := jo_b h14
            refine jf228 hl1 (jb_rn rfl) b17 (fun σ16 s16 r16 => ?_) σ11 s11
            show jb_w (d + 2) 230 463 [some (.ref 92), some (jb_v l1), some (jb_v l2), some (jb_v l3), some (jb_v l4), o5, o6, o7, o8, o9] [(jb_v (x16.2))] σ16 Q
            refine jw_goto jM230 jq230_463 ?_
            refine jiS1 (p := 468) rfl jM230 jq230_467 ?_
            refine jiI4 (p := 471) rfl jM230 jq230_468 ?_
            refine jw_goto jM230 jq230_471 ?_
            obtain ⟨c18, h18⟩ := jo_i h17
            exact ih r16 hl2 hl3 c18 h18 k σ16 s16
def fo230_s : Nat → Nat → jg_G → Int → Int → Int → Int → Int → Int → Int → Int → Int → Option (jg_G × Int)
  | 0, _, _, _, _, _, _, _, _, _, _, _ => none
  | m + 1, t, G, l1, l2, l3, l4, l5, l6, l7, l8, l9 => if t = 65 then (if l3 ≤ 0 then (fo230_418 jo_N G l1 l2 l3 0) else (if 0 ≤ (4 * (l3 + (-1))) ∧ (4 * (l3 + (-1))) < 400 then if 0 ≤ ((4 * (l3 + (-1))) + 1) ∧ ((4 * (l3 + (-1))) + 1) < 400 then if 0 ≤ ((4 * (l3 + (-1))) + 2) ∧ ((4 * (l3 + (-1))) + 2) < 400 then if 0 ≤ ((4 * (l3 + (-1))) + 3) ∧ ((4 * (l3 + (-1))) + 3) < 400 then if 0 ≤ (G 117 (4 * (l3 + (-1)))) ∧ (G 117 (4 * (l3 + (-1)))) < 24 then jo_l (fr_ro G (G 117 (4 * (l3 + (-1))))) fun x7 => jo_l (fr_to G (G 117 (4 * (l3 + (-1))))) fun x9 => if x9 = 0 then (if 0 ≤ (G 117 (4 * (l3 + (-1)))) ∧ (G 117 (4 * (l3 + (-1)))) < 24 then if G 118 (G 117 (4 * (l3 + (-1)))) = 0 then (if 0 ≤ (67 * x7) ∧ (67 * x7) < 305118 then if G 93 (67 * x7) = 0 then ((fo228 G l1 2).bind fun x114 => if -2147483648 ≤ (l3 + (-1)) ∧ (l3 + (-1)) < 2147483648 then fo230_s m 65 (jg_u (x114.1) 118 (G 117 (4 * (l3 + (-1)))) 1) (x114.2) l2 (l3 + (-1)) (G 117 (4 * (l3 + (-1)))) 0 0 0 0 0 else none) else ((fo229 (jg_u G 118 (G 117 (4 * (l3 + (-1)))) 1) x7 (G 117 ((4 * (l3 + (-1))) + 1)) (G 117 ((4 * (l3 + (-1))) + 2))).bind fun x21 => if x21.2 = 0 then ((fo228 (x21.1) l1 3).bind fun x24 => if 0 ≤ ((67 * x7) + 2) ∧ ((67 * x7) + 2) < 305118 then if (x24.1) 93 ((67 * x7) + 2) = 0 then (if G 117 (4 * (l3 + (-1))) = 0 then (if (x24.1) 93 (67 * x7) = 2 then ((fo228 (x24.1) (x24.2) 5).bind fun x59 => if (x59.1) 93 (67 * x7) = 1 then (if l2 = (-1) then (if -2147483648 ≤ (l3 + (-1)) ∧ (l3 + (-1)) < 2147483648 then fo230_s m 286 (x59.1) (x59.2) (G 117 ((4 * (l3 + (-1))) + 3)) (l3 + (-1)) (G 117 (4 * (l3 + (-1)))) (G 117 ((4 * (l3 + (-1))) + 1)) (G 117 ((4 * (l3 + (-1))) + 2)) (G 117 ((4 * (l3 + (-1))) + 3)) x7 0 else none) else (if l2 = G 117 ((4 * (l3 + (-1))) + 3) then (if -2147483648 ≤ (l3 + (-1)) ∧ (l3 + (-1)) < 2147483648 then fo230_s m 286 (x59.1) (x59.2) (G 117 ((4 * (l3 + (-1))) + 3)) (l3 + (-1)) (G 117 (4 * (l3 + (-1)))) (G 117 ((4 * (l3 + (-1))) + 1)) (G 117 ((4 * (l3 + (-1))) + 2)) (G 117 ((4 * (l3 + (-1))) + 3)) x7 0 else none) else ((fo228 (x59.1) (x59.2) 4).bind fun x67 => if -2147483648 ≤ (l3 + (-1)) ∧ (l3 + (-1)) < 2147483648 then fo230_s m 286 (x67.1) (x67.2) (G 117 ((4 * (l3 + (-1))) + 3)) (l3 + (-1)) (G 117 (4 * (l3 + (-1)))) (G 117 ((4 * (l3 + (-1))) + 1)) (G 117 ((4 * (l3 + (-1))) + 2)) (G 117 ((4 * (l3 + (-1))) + 3)) x7 0 else none))) else (if -2147483648 ≤ (l3 + (-1)) ∧ (l3 + (-1)) < 2147483648 then fo230_s m 286 (x59.1) (x59.2) l2 (l3 + (-1)) (G 117 (4 * (l3 + (-1)))) (G 117 ((4 * (l3 + (-1))) + 1)) (G 117 ((4 * (l3 + (-1))) + 2)) (G 117 ((4 * (l3 + (-1))) + 3)) x7 0 else none)) else (if (x24.1) 93 (67 * x7) = 1 then (if l2 = (-1) then (if -2147483648 ≤ (l3 + (-1)) ∧ (l3 + (-1)) < 2147483648 then fo230_s m 286 (x24.1) (x24.2) (G 117 ((4 * (l3 + (-1))) + 3)) (l3 + (-1)) (G 117 (4 * (l3 + (-1)))) (G 117 ((4 * (l3 + (-1))) + 1)) (G 117 ((4 * (l3 + (-1))) + 2)) (G 117 ((4 * (l3 + (-1))) + 3)) x7 0 else none) else (if l2 = G 117 ((4 * (l3 + (-1))) + 3) then (if -2147483648 ≤ (l3 + (-1)) ∧ (l3 + (-1)) < 2147483648 then fo230_s m 286 (x24.1) (x24.2) (G 117 ((4 * (l3 + (-1))) + 3)) (l3 + (-1)) (G 117 (4 * (l3 + (-1)))) (G 117 ((4 * (l3 + (-1))) + 1)) (G 117 ((4 * (l3 + (-1))) + 2)) (G 117 ((4 * (l3 + (-1))) + 3)) x7 0 else none) else ((fo228 (x24.1) (x24.2) 4).bind fun x56 => if -2147483648 ≤ (l3 + (-1)) ∧ (l3 + (-1)) < 2147483648 then fo230_s m 286 (x56.1) (x56.2) (G 117 ((4 * (l3 + (-1))) + 3)) (l3 + (-1)) (G 117 (4 * (l3 + (-1)))) (G 117 ((4 * (l3 + (-1))) + 1)) (G 117 ((4 * (l3 + (-1))) + 2)) (G 117 ((4 * (l3 + (-1))) + 3)) x7 0 else none))) else (if -2147483648 ≤ (l3 + (-1)) ∧ (l3 + (-1)) < 2147483648 then fo230_s m 286 (x24.1) (x24.2) l2 (l3 + (-1)) (G 117 (4 * (l3 + (-1)))) (G 117 ((4 * (l3 + (-1))) + 1)) (G 117 ((4 * (l3 + (-1))) + 2)) (G 117 ((4 * (l3 + (-1))) + 3)) x7 0 else none))) else ((fo228 (x24.1) (x24.2) 5).bind fun x38 => if (x38.1) 93 (67 * x7) = 1 then (if l2 = (-1) then (if -2147483648 ≤ (l3 + (-1)) ∧ (l3 + (-1)) < 2147483648 then fo230_s m 286 (x38.1) (x38.2) (G 117 ((4 * (l3 + (-1))) + 3)) (l3 + (-1)) (G 117 (4 * (l3 + (-1)))) (G 117 ((4 * (l3 + (-1))) + 1)) (G 117 ((4 * (l3 + (-1))) + 2)) (G 117 ((4 * (l3 + (-1))) + 3)) x7 0 else none) else (if l2 = G 117 ((4 * (l3 + (-1))) + 3) then (if -2147483648 ≤ (l3 + (-1)) ∧ (l3 + (-1)) < 2147483648 then fo230_s m 286 (x38.1) (x38.2) (G 117 ((4 * (l3 + (-1))) + 3)) (l3 + (-1)) (G 117 (4 * (l3 + (-1)))) (G 117 ((4 * (l3 + (-1))) + 1)) (G 117 ((4 * (l3 + (-1))) + 2)) (G 117 ((4 * (l3 + (-1))) + 3)) x7 0 else none) else ((fo228 (x38.1) (x38.2) 4).bind fun x46 => if -2147483648 ≤ (l3 + (-1)) ∧ (l3 + (-1)) < 2147483648 then fo230_s m 286 (x46.1) (x46.2) (G 117 ((4 * (l3 + (-1))) + 3)) (l3 + (-1)) (G 117 (4 * (l3 + (-1)))) (G 117 ((4 * (l3 + (-1))) + 1)) (G 117 ((4 * (l3 + (-1))) + 2)) (G 117 ((4 * (l3 + (-1))) + 3)) x7 0 else none))) else (if -2147483648 ≤ (l3 + (-1)) ∧ (l3 + (-1)) < 2147483648 then fo230_s m 286 (x38.1) (x38.2) l2 (l3 + (-1)) (G 117 (4 * (l3 + (-1)))) (G 117 ((4 * (l3 + (-1))) + 1)) (G 117 ((4 * (l3 + (-1))) + 2)) (G 117 ((4 * (l3 + (-1))) + 3)) x7 0 else none))) else (if (x24.1) 93 (67 * x7) = 1 then (if l2 = (-1) then (if -2147483648 ≤ (l3 + (-1)) ∧ (l3 + (-1)) < 2147483648 then fo230_s m 286 (x24.1) (x24.2) (G 117 ((4 * (l3 + (-1))) + 3)) (l3 + (-1)) (G 117 (4 * (l3 + (-1)))) (G 117 ((4 * (l3 + (-1))) + 1)) (G 117 ((4 * (l3 + (-1))) + 2)) (G 117 ((4 * (l3 + (-1))) + 3)) x7 0 else none) else (if l2 = G 117 ((4 * (l3 + (-1))) + 3) then (if -2147483648 ≤ (l3 + (-1)) ∧ (l3 + (-1)) < 2147483648 then fo230_s m 286 (x24.1) (x24.2) (G 117 ((4 * (l3 + (-1))) + 3)) (l3 + (-1)) (G 117 (4 * (l3 + (-1)))) (G 117 ((4 * (l3 + (-1))) + 1)) (G 117 ((4 * (l3 + (-1))) + 2)) (G 117 ((4 * (l3 + (-1))) + 3)) x7 0 else none) else ((fo228 (x24.1) (x24.2) 4).bind fun x34 => if -2147483648 ≤ (l3 + (-1)) ∧ (l3 + (-1)) < 2147483648 then fo230_s m 286 (x34.1) (x34.2) (G 117 ((4 * (l3 + (-1))) + 3)) (l3 + (-1)) (G 117 (4 * (l3 + (-1)))) (G 117 ((4 * (l3 + (-1))) + 1)) (G 117 ((4 * (l3 + (-1))) + 2)) (G 117 ((4 * (l3 + (-1))) + 3)) x7 0 else none))) else (if -2147483648 ≤ (l3 + (-1)) ∧ (l3 + (-1)) < 2147483648 then fo230_s m 286 (x24.1) (x24.2) l2 (l3 + (-1)) (G 117 (4 * (l3 + (-1)))) (G 117 ((4 * (l3 + (-1))) + 1)) (G 117 ((4 * (l3 + (-1))) + 2)) (G 117 ((4 * (l3 + (-1))) + 3)) x7 0 else none)) else none) else (if 0 ≤ ((67 * x7) + 2) ∧ ((67 * x7) + 2) < 305118 then if (x21.1) 93 ((67 * x7) + 2) = 0 then (if G 117 (4 * (l3 + (-1))) = 0 then (if (x21.1) 93 (67 * x7) = 2 then ((fo228 (x21.1) l1 5).bind fun x103 => if (x103.1) 93 (67 * x7) = 1 then (if l2 = (-1) then (if -2147483648 ≤ (l3 + (-1)) ∧ (l3 + (-1)) < 2147483648 then fo230_s m 286 (x103.1) (x103.2) (G 117 ((4 * (l3 + (-1))) + 3)) (l3 + (-1)) (G 117 (4 * (l3 + (-1)))) (G 117 ((4 * (l3 + (-1))) + 1)) (G 117 ((4 * (l3 + (-1))) + 2)) (G 117 ((4 * (l3 + (-1))) + 3)) x7 0 else none) else (if l2 = G 117 ((4 * (l3 + (-1))) + 3) then (if -2147483648 ≤ (l3 + (-1)) ∧ (l3 + (-1)) < 2147483648 then fo230_s m 286 (x103.1) (x103.2) (G 117 ((4 * (l3 + (-1))) + 3)) (l3 + (-1)) (G 117 (4 * (l3 + (-1)))) (G 117 ((4 * (l3 + (-1))) + 1)) (G 117 ((4 * (l3 + (-1))) + 2)) (G 117 ((4 * (l3 + (-1))) + 3)) x7 0 else none) else ((fo228 (x103.1) (x103.2) 4).bind fun x111 => if -2147483648 ≤ (l3 + (-1)) ∧ (l3 + (-1)) < 2147483648 then fo230_s m 286 (x111.1) (x111.2) (G 117 ((4 * (l3 + (-1))) + 3)) (l3 + (-1)) (G 117 (4 * (l3 + (-1)))) (G 117 ((4 * (l3 + (-1))) + 1)) (G 117 ((4 * (l3 + (-1))) + 2)) (G 117 ((4 * (l3 + (-1))) + 3)) x7 0 else none))) else (if -2147483648 ≤ (l3 + (-1)) ∧ (l3 + (-1)) < 2147483648 then fo230_s m 286 (x103.1) (x103.2) l2 (l3 + (-1)) (G 117 (4 * (l3 + (-1)))) (G 117 ((4 * (l3 + (-1))) + 1)) (G 117 ((4 * (l3 + (-1))) + 2)) (G 117 ((4 * (l3 + (-1))) + 3)) x7 0 else none)) else (if (x21.1) 93 (67 * x7) = 1 then (if l2 = (-1) then (if -2147483648 ≤ (l3 + (-1)) ∧ (l3 + (-1)) < 2147483648 then fo230_s m 286 (x21.1) l1 (G 117 ((4 * (l3 + (-1))) + 3)) (l3 + (-1)) (G 117 (4 * (l3 + (-1)))) (G 117 ((4 * (l3 + (-1))) + 1)) (G 117 ((4 * (l3 + (-1))) + 2)) (G 117 ((4 * (l3 + (-1))) + 3)) x7 0 else none) else (if l2 = G 117 ((4 * (l3 + (-1))) + 3) then (if -2147483648 ≤ (l3 + (-1)) ∧ (l3 + (-1)) < 2147483648 then fo230_s m 286 (x21.1) l1 (G 117 ((4 * (l3 + (-1))) + 3)) (l3 + (-1)) (G 117 (4 * (l3 + (-1)))) (G 117 ((4 * (l3 + (-1))) + 1)) (G 117 ((4 * (l3 + (-1))) + 2)) (G 117 ((4 * (l3 + (-1))) + 3)) x7 0 else none) else ((fo228 (x21.1) l1 4).bind fun x100 => if -2147483648 ≤ (l3 + (-1)) ∧ (l3 + (-1)) < 2147483648 then fo230_s m 286 (x100.1) (x100.2) (G 117 ((4 * (l3 + (-1))) + 3)) (l3 + (-1)) (G 117 (4 * (l3 + (-1)))) (G 117 ((4 * (l3 + (-1))) + 1)) (G 117 ((4 * (l3 + (-1))) + 2)) (G 117 ((4 * (l3 + (-1))) + 3)) x7 0 else none))) else (if -2147483648 ≤ (l3 + (-1)) ∧ (l3 + (-1)) < 2147483648 then fo230_s m 286 (x21.1) l1 l2 (l3 + (-1)) (G 117 (4 * (l3 + (-1)))) (G 117 ((4 * (l3 + (-1))) + 1)) (G 117 ((4 * (l3 + (-1))) + 2)) (G 117 ((4 * (l3 + (-1))) + 3)) x7 0 else none))) else ((fo228 (x21.1) l1 5).bind fun x82 => if (x82.1) 93 (67 * x7) = 1 then (if l2 = (-1) then (if -2147483648 ≤ (l3 + (-1)) ∧ (l3 + (-1)) < 2147483648 then fo230_s m 286 (x82.1) (x82.2) (G 117 ((4 * (l3 + (-1))) + 3)) (l3 + (-1)) (G 117 (4 * (l3 + (-1)))) (G 117 ((4 * (l3 + (-1))) + 1)) (G 117 ((4 * (l3 + (-1))) + 2)) (G 117 ((4 * (l3 + (-1))) + 3)) x7 0 else none) else (if l2 = G 117 ((4 * (l3 + (-1))) + 3) then (if -2147483648 ≤ (l3 + (-1)) ∧ (l3 + (-1)) < 2147483648 then fo230_s m 286 (x82.1) (x82.2) (G 117 ((4 * (l3 + (-1))) + 3)) (l3 + (-1)) (G 117 (4 * (l3 + (-1)))) (G 117 ((4 * (l3 + (-1))) + 1)) (G 117 ((4 * (l3 + (-1))) + 2)) (G 117 ((4 * (l3 + (-1))) + 3)) x7 0 else none) else ((fo228 (x82.1) (x82.2) 4).bind fun x90 => if -2147483648 ≤ (l3 + (-1)) ∧ (l3 + (-1)) < 2147483648 then fo230_s m 286 (x90.1) (x90.2) (G 117 ((4 * (l3 + (-1))) + 3)) (l3 + (-1)) (G 117 (4 * (l3 + (-1)))) (G 117 ((4 * (l3 + (-1))) + 1)) (G 117 ((4 * (l3 + (-1))) + 2)) (G 117 ((4 * (l3 + (-1))) + 3)) x7 0 else none))) else (if -2147483648 ≤ (l3 + (-1)) ∧ (l3 + (-1)) < 2147483648 then fo230_s m 286 (x82.1) (x82.2) l2 (l3 + (-1)) (G 117 (4 * (l3 + (-1)))) (G 117 ((4 * (l3 + (-1))) + 1)) (G 117 ((4 * (l3 + (-1))) + 2)) (G 117 ((4 * (l3 + (-1))) + 3)) x7 0 else none))) else (if (x21.1) 93 (67 * x7) = 1 then (if l2 = (-1) then (if -2147483648 ≤ (l3 + (-1)) ∧ (l3 + (-1)) < 2147483648 then fo230_s m 286 (x21.1) l1 (G 117 ((4 * (l3 + (-1))) + 3)) (l3 + (-1)) (G 117 (4 * (l3 + (-1)))) (G 117 ((4 * (l3 + (-1))) + 1)) (G 117 ((4 * (l3 + (-1))) + 2)) (G 117 ((4 * (l3 + (-1))) + 3)) x7 0 else none) else (if l2 = G 117 ((4 * (l3 + (-1))) + 3) then (if -2147483648 ≤ (l3 + (-1)) ∧ (l3 + (-1)) < 2147483648 then fo230_s m 286 (x21.1) l1 (G 117 ((4 * (l3 + (-1))) + 3)) (l3 + (-1)) (G 117 (4 * (l3 + (-1)))) (G 117 ((4 * (l3 + (-1))) + 1)) (G 117 ((4 * (l3 + (-1))) + 2)) (G 117 ((4 * (l3 + (-1))) + 3)) x7 0 else none) else ((fo228 (x21.1) l1 4).bind fun x78 => if -2147483648 ≤ (l3 + (-1)) ∧ (l3 + (-1)) < 2147483648 then fo230_s m 286 (x78.1) (x78.2) (G 117 ((4 * (l3 + (-1))) + 3)) (l3 + (-1)) (G 117 (4 * (l3 + (-1)))) (G 117 ((4 * (l3 + (-1))) + 1)) (G 117 ((4 * (l3 + (-1))) + 2)) (G 117 ((4 * (l3 + (-1))) + 3)) x7 0 else none))) else (if -2147483648 ≤ (l3 + (-1)) ∧ (l3 + (-1)) < 2147483648 then fo230_s m 286 (x21.1) l1 l2 (l3 + (-1)) (G 117 (4 * (l3 + (-1)))) (G 117 ((4 * (l3 + (-1))) + 1)) (G 117 ((4 * (l3 + (-1))) + 2)) (G 117 ((4 * (l3 + (-1))) + 3)) x7 0 else none)) else none)) else none) else ((fo228 G l1 2).bind fun x14 => if -2147483648 ≤ (l3 + (-1)) ∧ (l3 + (-1)) < 2147483648 then fo230_s m 65 (jg_u (x14.1) 118 (G 117 (4 * (l3 + (-1)))) 1) (x14.2) l2 (l3 + (-1)) (G 117 (4 * (l3 + (-1)))) 0 0 0 0 0 else none) else none) else (if 0 ≤ (G 117 (4 * (l3 + (-1)))) ∧ (G 117 (4 * (l3 + (-1)))) < 24 then if -2147483648 ≤ (l3 + (-1)) ∧ (l3 + (-1)) < 2147483648 then fo230_s m 65 (jg_u G 118 (G 117 (4 * (l3 + (-1)))) 1) 1 l2 (l3 + (-1)) (G 117 (4 * (l3 + (-1)))) 0 0 0 0 0 else none else none) else none else none else none else none else none)) else if t = 286 then (if 0 ≤ (67 * l8) ∧ (67 * l8) < 305118 then if G 93 (67 * l8) = 2 then (if 0 ≤ ((67 * l8) + 2) ∧ ((67 * l8) + 2) < 305118 then if G 93 ((67 * l8) + 2) ≤ l9 then (fo230_s m 65 G l1 l2 l3 l4 0 0 0 0 0) else (if 0 ≤ (((67 * l8) + 4) + (2 * l9)) ∧ (((67 * l8) + 4) + (2 * l9)) < 305118 then if 0 ≤ (4 * l3) ∧ (4 * l3) < 400 then if l9 = 0 then (if 0 ≤ ((4 * l3) + 1) ∧ ((4 * l3) + 1) < 400 then if -2147483648 ≤ (l9 + 1) ∧ (l9 + 1) < 2147483648 then if G 93 ((67 * l8) + 2) ≤ l9 + 1 then (if 0 ≤ ((4 * l3) + 2) ∧ ((4 * l3) + 2) < 400 then if 0 ≤ ((4 * l3) + 3) ∧ ((4 * l3) + 3) < 400 then if -2147483648 ≤ (l7 + 1) ∧ (l7 + 1) < 2147483648 then if -2147483648 ≤ (l3 + 1) ∧ (l3 + 1) < 2147483648 then fo230_s m 286 (jg_u (jg_u (jg_u (jg_u G 117 (4 * l3) (G 93 (((67 * l8) + 4) + (2 * l9)))) 117 ((4 * l3) + 1) l5) 117 ((4 * l3) + 2) l6) 117 ((4 * l3) + 3) (l7 + 1)) l1 l2 (l3 + 1) l4 l5 l6 l7 l8 (l9 + 1) else none else none else none else none) else (if 0 ≤ (((67 * l8) + 3) + (2 * (l9 + 1))) ∧ (((67 * l8) + 3) + (2 * (l9 + 1))) < 305118 then if 0 ≤ ((4 * l3) + 2) ∧ ((4 * l3) + 2) < 400 then if 0 ≤ ((4 * l3) + 3) ∧ ((4 * l3) + 3) < 400 then if -2147483648 ≤ (l7 + 1) ∧ (l7 + 1) < 2147483648 then if -2147483648 ≤ (l3 + 1) ∧ (l3 + 1) < 2147483648 then fo230_s m 286 (jg_u (jg_u (jg_u (jg_u G 117 (4 * l3) (G 93 (((67 * l8) + 4) + (2 * l9)))) 117 ((4 * l3) + 1) l5) 117 ((4 * l3) + 2) (G 93 (((67 * l8) + 3) + (2 * (l9 + 1))))) 117 ((4 * l3) + 3) (l7 + 1)) l1 l2 (l3 + 1) l4 l5 l6 l7 l8 (l9 + 1) else none else none else none else none else none) else none else none) else (if 0 ≤ (((67 * l8) + 3) + (2 * l9)) ∧ (((67 * l8) + 3) + (2 * l9)) < 305118 then if 0 ≤ ((4 * l3) + 1) ∧ ((4 * l3) + 1) < 400 then if -2147483648 ≤ (l9 + 1) ∧ (l9 + 1) < 2147483648 then if G 93 ((67 * l8) + 2) ≤ l9 + 1 then (if 0 ≤ ((4 * l3) + 2) ∧ ((4 * l3) + 2) < 400 then if 0 ≤ ((4 * l3) + 3) ∧ ((4 * l3) + 3) < 400 then if -2147483648 ≤ (l7 + 1) ∧ (l7 + 1) < 2147483648 then if -2147483648 ≤ (l3 + 1) ∧ (l3 + 1) < 2147483648 then fo230_s m 286 (jg_u (jg_u (jg_u (jg_u G 117 (4 * l3) (G 93 (((67 * l8) + 4) + (2 * l9)))) 117 ((4 * l3) + 1) (G 93 (((67 * l8) + 3) + (2 * l9)))) 117 ((4 * l3) + 2) l6) 117 ((4 * l3) + 3) (l7 + 1)) l1 l2 (l3 + 1) l4 l5 l6 l7 l8 (l9 + 1) else none else none else none else none) else (if 0 ≤ (((67 * l8) + 3) + (2 * (l9 + 1))) ∧ (((67 * l8) + 3) + (2 * (l9 + 1))) < 305118 then if 0 ≤ ((4 * l3) + 2) ∧ ((4 * l3) + 2) < 400 then if 0 ≤ ((4 * l3) + 3) ∧ ((4 * l3) + 3) < 400 then if -2147483648 ≤ (l7 + 1) ∧ (l7 + 1) < 2147483648 then if -2147483648 ≤ (l3 + 1) ∧ (l3 + 1) < 2147483648 then fo230_s m 286 (jg_u (jg_u (jg_u (jg_u G 117 (4 * l3) (G 93 (((67 * l8) + 4) + (2 * l9)))) 117 ((4 * l3) + 1) (G 93 (((67 * l8) + 3) + (2 * l9)))) 117 ((4 * l3) + 2) (G 93 (((67 * l8) + 3) + (2 * (l9 + 1))))) 117 ((4 * l3) + 3) (l7 + 1)) l1 l2 (l3 + 1) l4 l5 l6 l7 l8 (l9 + 1) else none else none else none else none else none) else none else none else none) else none else none) else none) else (fo230_s m 65 G l1 l2 l3 l4 0 0 0 0 0) else none) else none
theorem jf230_s {d : Nat} {σ0 : ib_H} {Q : ib_O → Prop} : ∀ (m : Nat), (∀ {G : jg_G} {l1 : Int} {l2 : Int} {l3 : Int} {l4 : Int} {o5 : Option Value} {o6 : Option Value} {o7 : Option Value} {o8 : Option Value} {o9 : Option Value} (hl1 : jb_r l1) (hl2 : jb_r l2) (hl3 : jb_r l3) (hl4 : jb_r l4) {r : jg_G × Int} (h : fo230_s m 65 G l1 l2 l3 l4 0 0 0 0 0 = some r) (k : ∀ σ, jg_S σ0 r.1 σ → jb_r r.2 → Q (.inl (some (jb_v r.2)), σ)), jg_W σ0 G (d + 2) 230 65 [some (.ref 92), some (jb_v l1), some (jb_v l2), some (jb_v l3), some (jb_v l4), o5, o6, o7, o8, o9] [] Q) ∧ (∀ {G : jg_G} {l1 : Int} {l2 : Int} {l3 : Int} {l4 : Int} {l5 : Int} {l6 : Int} {l7 : Int} {l8 : Int} {l9 : Int} (hl1 : jb_r l1) (hl2 : jb_r l2) (hl3 : jb_r l3) (hl4 : jb_r l4) (hl5 : jb_r l5) (hl6 : jb_r l6) (hl7 : jb_r l7) (hl8 : jb_r l8) (hl9 : jb_r l9) {r : jg_G × Int} (h : fo230_s m 286 G l1 l2 l3 l4 l5 l6 l7 l8 l9 = some r) (k : ∀ σ, jg_S σ0 r.1 σ → jb_r r.2 → Q (.inl (some (jb_v r.2)), σ)), jg_W σ0 G (d + 2) 230 286 [some (.ref 92), some (jb_v l1), some (jb_v l2), some (jb_v l3), some (jb_v l4), some (jb_v l5), some (jb_v l6), some (jb_v l7), some (jb_v l8), some (jb_v l9)] [] Q) := by
  intro m
  induction m with
  | zero =>
    refine ⟨?_, ?_⟩
    · intro G l1 l2 l3 l4 o5 o6 o7 o8 o9 hl1 hl2 hl3 hl4 r h k
      cases h
    · intro G l1 l2 l3 l4 l5 l6 l7 l8 l9 hl1 hl2 hl3 hl4 hl5 hl6 hl7 hl8 hl9 r h k
      cases h
  | succ m ih =>
    refine ⟨?_, ?_⟩
    · intro G l1 l2 l3 l4 o5 o6 o7 o8 o9 hl1 hl2 hl3 hl4 r h k σ s
      unfold fo230_s at h
      have h := jo_p rfl h
      refine jiL3 (p := 66) rfl jM230 jq230_65 ?_
      refine jw_if (p := 69) rfl jM230 jq230_66 (jc_le hl3 jb_r0) (fun c1 => ?_) (fun c1 => ?_)
      · have h1 := jo_p c1 h
        refine jw_iconst (p := 416) rfl jM230 jq230_415 ?_
        refine jiS4 (p := 418) rfl jM230 jq230_416 ?_
        exact jf230_418 jo_N hl1 hl2 hl3 (jb_rn rfl) h1 k σ s
      · have h1 := jo_n c1 h
        refine jiI3 (p := 72) rfl jM230 jq230_69 ?_
        refine jaL0 (p := 73) rfl jM230 jq230_72 ?_
        refine jw_getP (p := 76) (i := 34) (q := 117) rfl jM230 jq230_73 rfl (jo_92 s.1) je_11_34 (jp_92_34 s.1) ?_
        refine jw_iconst (p := 77) rfl jM230 jq230_76 ?_
        refine jiL3 (p := 78) rfl jM230 jq230_77 ?_
        refine jw_imul (p := 79) rfl jM230 jq230_78 ?_
        obtain ⟨c2, h2⟩ := jo_i h1
        refine jg_iald (p := 80) rfl jM230 jq230_79 (ja_117 s.1) c2.1 c2.2 s (by decide) rfl ?_
        refine jiS4 (p := 82) rfl jM230 jq230_80 ?_
        refine jaL0 (p := 83) rfl jM230 jq230_82 ?_
        refine jw_getP (p := 86) (i := 34) (q := 117) rfl jM230 jq230_83 rfl (jo_92 s.1) je_11_34 (jp_92_34 s.1) ?_
        refine jw_iconst (p := 87) rfl jM230 jq230_86 ?_
        refine jiL3 (p := 88) rfl jM230 jq230_87 ?_
        refine jw_imul (p := 89) rfl jM230 jq230_88 ?_
        refine jw_iconst (p := 90) rfl jM230 jq230_89 ?_
        refine jw_iadd (p := 91) rfl jM230 jq230_90 ?_
        obtain ⟨c3, h3⟩ := jo_i h2
        refine jg_iald (p := 92) rfl jM230 jq230_91 (ja_117 s.1) c3.1 c3.2 s (by decide) rfl ?_
        refine jiS5 (p := 94) rfl jM230 jq230_92 ?_
        refine jaL0 (p := 95) rfl jM230 jq230_94 ?_
        refine jw_getP (p := 98) (i := 34) (q := 117) rfl jM230 jq230_95 rfl (jo_92 s.1) je_11_34 (jp_92_34 s.1) ?_
        refine jw_iconst (p := 99) rfl jM230 jq230_98 ?_
        refine jiL3 (p := 100) rfl jM230 jq230_99 ?_
        refine jw_imul (p := 101) rfl jM230 jq230_100 ?_
        refine jw_iconst (p := 102) rfl jM230 jq230_101 ?_
        refine jw_iadd (p := 103) rfl jM230 jq230_102 ?_
        obtain ⟨c4, h4⟩ := jo_i h3
        refine jg_iald (p := 104) rfl jM230 jq230_103 (ja_117 s.1) c4.1 c4.2 s (by decide) rfl ?_
        refine jiS6 (p := 106) rfl jM230 jq230_104 ?_
        refine jaL0 (p := 107) rfl jM230 jq230_106 ?_
        refine jw_getP (p := 110) (i := 34) (q := 117) rfl jM230 jq230_107 rfl (jo_92 s.1) je_11_34 (jp_92_34 s.1) ?_
        refine jw_iconst (p := 111) rfl jM230 jq230_110 ?_
        refine jiL3 (p := 112) rfl jM230 jq230_111 ?_
        refine jw_imul (p := 113) rfl jM230 jq230_112 ?_
        refine jw_iconst (p := 114) rfl jM230 jq230_113 ?_
        refine jw_iadd (p := 115) rfl jM230 jq230_114 ?_
        obtain ⟨c5, h5⟩ := jo_i h4
        refine jg_iald (p := 116) rfl jM230 jq230_115 (ja_117 s.1) c5.1 c5.2 s (by decide) rfl ?_
        refine jiS7 (p := 118) rfl jM230 jq230_116 ?_
        refine jaL0 (p := 119) rfl jM230 jq230_118 ?_
        refine jiL4 (p := 121) rfl jM230 jq230_119 ?_
        refine jw_callV [(jb_v (G 117 (4 * (l3 + (-1)))))] jM230 jq230_121 rfl rfl (jo_92 s.1) rfl jM161 rfl rfl ?_
        obtain ⟨c6, h6⟩ := jo_i h5
        obtain ⟨x7, e8, h8⟩ := jo_lb h6
        refine cs161 c6 (fun σ7 s7 r7 => ?_) σ s
        rw [e8] at r7 ⊢
        show jb_w (d + 2) 230 124 [some (.ref 92), some (jb_v l1), some (jb_v l2), some (jb_v (l3 + (-1))), some (jb_v (G 117 (4 * (l3 + (-1))))), some (jb_v (G 117 ((4 * (l3 + (-1))) + 1))), some (jb_v (G 117 ((4 * (l3 + (-1))) + 2))), some (jb_v (G 117 ((4 * (l3 + (-1))) + 3))), o8, o9] [(jb_v x7)] σ7 Q
        refine jiS8 (p := 126) rfl jM230 jq230_124 ?_
        refine jaL0 (p := 127) rfl jM230 jq230_126 ?_
        refine jiL4 (p := 129) rfl jM230 jq230_127 ?_
        refine jw_callV [(jb_v (G 117 (4 * (l3 + (-1)))))] jM230 jq230_129 rfl rfl (jo_92 s7.1) rfl jM162 rfl rfl ?_
        obtain ⟨x9, e10, h10⟩ := jo_lb h8
        refine cs162 c6 (fun σ9 s9 r9 => ?_) σ7 s7
        rw [e10] at r9 ⊢
        show jb_w (d + 2) 230 132 [some (.ref 92), some (jb_v l1), some (jb_v l2), some (jb_v (l3 + (-1))), some (jb_v (G 117 (4 * (l3 + (-1))))), some (jb_v (G 117 ((4 * (l3 + (-1))) + 1))), some (jb_v (G 117 ((4 * (l3 + (-1))) + 2))), some (jb_v (G 117 ((4 * (l3 + (-1))) + 3))), some (jb_v x7), o9] [(jb_v x9)] σ9 Q
        refine jw_if (p := 135) rfl jM230 jq230_132 (jc_eq r9 jb_r0) (fun c11 => ?_) (fun c11 => ?_)
        · have h11 := jo_p c11 h10
          refine jaL0 (p := 149) rfl jM230 jq230_148 ?_
          refine jw_getP (p := 152) (i := 35) (q := 118) rfl jM230 jq230_149 rfl (jo_92 s9.1) je_11_35 (jp_92_35 s9.1) ?_
          refine jiL4 (p := 154) rfl jM230 jq230_152 ?_
          obtain ⟨c12, h12⟩ := jo_i h11
          refine jg_bald (p := 155) rfl jM230 jq230_154 (ja_118 s9.1) c12.1 c12.2 s9 (by decide) rfl ?_
          refine jw_if (p := 158) rfl jM230 jq230_155 (jc_ne (s.r _ _) jb_r0) (fun c13 => ?_) (fun c13 => ?_)
          · have h13 := jo_n c13 h12
            refine jiL1 (p := 168) rfl jM230 jq230_167 ?_
            refine jw_iconst (p := 169) rfl jM230 jq230_168 ?_
            refine jw_callS [(jb_v l1), (jb_v 2)] jM230 jq230_169 rfl rfl rfl jM228 rfl rfl ?_
            obtain ⟨x14, b15, h15⟩ := jo_b h13
            refine jf228 hl1 (jb_rn rfl) b15 (fun σ14 s14 r14 => ?_) σ9 s9
            show jb_w (d + 2) 230 172 [some (.ref 92), some (jb_v l1), some (jb_v l2), some (jb_v (l3 + (-1))), some (jb_v (G 117 (4 * (l3 + (-1))))), some (jb_v (G 117 ((4 * (l3 + (-1))) + 1))), some (jb_v (G 117 ((4 * (l3 + (-1))) + 2))), some (jb_v (G 117 ((4 * (l3 + (-1))) + 3))), some (jb_v x7), o9] [(jb_v (x14.2))] σ14 Q
            refine jiS1 (p := 173) rfl jM230 jq230_172 ?_
            refine jaL0 (p := 174) rfl jM230 jq230_173 ?_
            refine jw_getP (p := 177) (i := 35) (q := 118) rfl jM230 jq230_174 rfl (jo_92 s14.1) je_11_35 (jp_92_35 s14.1) ?_
            refine jiL4 (p := 179) rfl jM230 jq230_177 ?_
            refine jw_iconst (p := 180) rfl jM230 jq230_179 ?_
            refine jg_bast (p := 181) rfl jM230 jq230_180 (ja_118 s14.1) c12.1 c12.2 (Or.inr rfl) s14 (by decide) ?_
            intro σ16 s16
            refine jw_goto jM230 jq230_181 ?_
            refine jw_goto jM230 jq230_412 ?_
            obtain ⟨c17, h17⟩ := jo_i h15
            exact ih.1 r14 hl2 c17 (s.r _ _) h17 k σ16 s16
          · have h13 := jo_p (Decidable.byContradiction c13) h12
            refine jaL0 (p := 159) rfl jM230 jq230_158 ?_
            refine jiL8 (p := 161) rfl jM230 jq230_159 ?_
            refine jw_callV [(jb_v x7)] jM230 jq230_161 rfl rfl (jo_92 s9.1) rfl jM149 rfl rfl ?_
            show jb_w (d + 1) 149 0 [some (.ref 92), some (jb_v x7)] [] σ9 (jb_k (d + 2) 230 161 [some (.ref 92), some (jb_v l1), some (jb_v l2), some (jb_v (l3 + (-1))), some (jb_v (G 117 (4 * (l3 + (-1))))), some (jb_v (G 117 ((4 * (l3 + (-1))) + 1))), some (jb_v (G 117 ((4 * (l3 + (-1))) + 2))), some (jb_v (G 117 ((4 * (l3 + (-1))) + 3))), some (jb_v x7), o9] [] Q)
            refine jaL0 (p := 1) rfl jM149 jq149_0 ?_
            refine jw_getP (p := 4) (i := 1) (q := 93) rfl jM149 jq149_1 rfl (jo_92 s9.1) je_11_1 (jp_92_1 s9.1) ?_
            refine jw_bipush (p := 6) rfl jM149 jq149_4 (by decide) ?_
            refine jiL1 (p := 7) rfl jM149 jq149_6 ?_
            refine jw_imul (p := 8) rfl jM149 jq149_7 ?_
            obtain ⟨c18, h18⟩ := jo_i h13
            refine jg_iald (p := 9) rfl jM149 jq149_8 (ja_93 s9.1) c18.1 c18.2 s9 (by decide) rfl ?_
            refine jw_iret jM149 jq149_9 (fun z => absurd z (by decide)) ?_
            show jb_w (d + 2) 230 164 [some (.ref 92), some (jb_v l1), some (jb_v l2), some (jb_v (l3 + (-1))), some (jb_v (G 117 (4 * (l3 + (-1))))), some (jb_v (G 117 ((4 * (l3 + (-1))) + 1))), some (jb_v (G 117 ((4 * (l3 + (-1))) + 2))), some (jb_v (G 117 ((4 * (l3 + (-1))) + 3))), some (jb_v x7), o9] [(jb_v (G 93 (67 * x7)))] σ9 Q
            refine jw_if (p := 167) rfl jM230 jq230_164 (jc_ne (s.r _ _) jb_r0) (fun c19 => ?_) (fun c19 => ?_)
            · have h19 := jo_n c19 h18
              refine jaL0 (p := 185) rfl jM230 jq230_184 ?_
              refine jw_getP (p := 188) (i := 35) (q := 118) rfl jM230 jq230_185 rfl (jo_92 s9.1) je_11_35 (jp_92_35 s9.1) ?_
              refine jiL4 (p := 190) rfl jM230 jq230_188 ?_
              refine jw_iconst (p := 191) rfl jM230 jq230_190 ?_
              refine jg_bast (p := 192) rfl jM230 jq230_191 (ja_118 s9.1) c12.1 c12.2 (Or.inr rfl) s9 (by decide) ?_
              intro σ20 s20
              refine jaL0 (p := 193) rfl jM230 jq230_192 ?_
              refine jiL8 (p := 195) rfl jM230 jq230_193 ?_
              refine jiL5 (p := 197) rfl jM230 jq230_195 ?_
              refine jiL6 (p := 199) rfl jM230 jq230_197 ?_
              refine jw_callV [(jb_v x7), (jb_v (G 117 ((4 * (l3 + (-1))) + 1))), (jb_v (G 117 ((4 * (l3 + (-1))) + 2)))] jM230 jq230_199 rfl rfl (jo_92 s20.1) rfl jM229 rfl rfl ?_
              obtain ⟨x21, b22, h22⟩ := jo_b h19
              refine jf229 r7 (s.r _ _) (s.r _ _) b22 (fun σ21 s21 r21 => ?_) σ20 s20
              show jb_w (d + 2) 230 202 [some (.ref 92), some (jb_v l1), some (jb_v l2), some (jb_v (l3 + (-1))), some (jb_v (G 117 (4 * (l3 + (-1))))), some (jb_v (G 117 ((4 * (l3 + (-1))) + 1))), some (jb_v (G 117 ((4 * (l3 + (-1))) + 2))), some (jb_v (G 117 ((4 * (l3 + (-1))) + 3))), some (jb_v x7), o9] [(jb_v (x21.2))] σ21 Q
              refine jw_if (p := 205) rfl jM230 jq230_202 (jc_eq r21 jb_r0) (fun c23 => ?_) (fun c23 => ?_)
              · have h23 := jo_p c23 h22
                refine jiL1 (p := 210) rfl jM230 jq230_209 ?_
                refine jw_iconst (p := 211) rfl jM230 jq230_210 ?_
                refine jw_callS [(jb_v l1), (jb_v 3)] jM230 jq230_211 rfl rfl rfl jM228 rfl rfl ?_
                obtain ⟨x24, b25, h25⟩ := jo_b h23
                refine jf228 hl1 (jb_rn rfl) b25 (fun σ24 s24 r24 => ?_) σ21 s21
                show jb_w (d + 2) 230 214 [some (.ref 92), some (jb_v l1), some (jb_v l2), some (jb_v (l3 + (-1))), some (jb_v (G 117 (4 * (l3 + (-1))))), some (jb_v (G 117 ((4 * (l3 + (-1))) + 1))), some (jb_v (G 117 ((4 * (l3 + (-1))) + 2))), some (jb_v (G 117 ((4 * (l3 + (-1))) + 3))), some (jb_v x7), o9] [(jb_v (x24.2))] σ24 Q
                refine jiS1 (p := 215) rfl jM230 jq230_214 ?_
                refine jaL0 (p := 216) rfl jM230 jq230_215 ?_
                refine jiL8 (p := 218) rfl jM230 jq230_216 ?_
                refine jw_callV [(jb_v x7)] jM230 jq230_218 rfl rfl (jo_92 s24.1) rfl jM150 rfl rfl ?_
                show jb_w (d + 1) 150 0 [some (.ref 92), some (jb_v x7)] [] σ24 (jb_k (d + 2) 230 218 [some (.ref 92), some (jb_v (x24.2)), some (jb_v l2), some (jb_v (l3 + (-1))), some (jb_v (G 117 (4 * (l3 + (-1))))), some (jb_v (G 117 ((4 * (l3 + (-1))) + 1))), some (jb_v (G 117 ((4 * (l3 + (-1))) + 2))), some (jb_v (G 117 ((4 * (l3 + (-1))) + 3))), some (jb_v x7), o9] [] Q)
                refine jaL0 (p := 1) rfl jM150 jq150_0 ?_
                refine jw_getP (p := 4) (i := 1) (q := 93) rfl jM150 jq150_1 rfl (jo_92 s24.1) je_11_1 (jp_92_1 s24.1) ?_
                refine jw_bipush (p := 6) rfl jM150 jq150_4 (by decide) ?_
                refine jiL1 (p := 7) rfl jM150 jq150_6 ?_
                refine jw_imul (p := 8) rfl jM150 jq150_7 ?_
                refine jw_iconst (p := 9) rfl jM150 jq150_8 ?_
                refine jw_iadd (p := 10) rfl jM150 jq150_9 ?_
                obtain ⟨c26, h26⟩ := jo_i h25
                refine jg_iald (p := 11) rfl jM150 jq150_10 (ja_93 s24.1) c26.1 c26.2 s24 (by decide) rfl ?_
                refine jw_iret jM150 jq150_11 (fun z => absurd z (by decide)) ?_
                show jb_w (d + 2) 230 221 [some (.ref 92), some (jb_v (x24.2)), some (jb_v l2), some (jb_v (l3 + (-1))), some (jb_v (G 117 (4 * (l3 + (-1))))), some (jb_v (G 117 ((4 * (l3 + (-1))) + 1))), some (jb_v (G 117 ((4 * (l3 + (-1))) + 2))), some (jb_v (G 117 ((4 * (l3 + (-1))) + 3))), some (jb_v x7), o9] [(jb_v ((x24.1) 93 ((67 * x7) + 2)))] σ24 Q
                refine jw_if (p := 224) rfl jM230 jq230_221 (jc_ne (s24.r _ _) jb_r0) (fun c27 => ?_) (fun c27 => ?_)
                · have h27 := jo_n c27 h26
                  refine jiL1 (p := 248) rfl jM230 jq230_247 ?_
                  refine jiS1 (p := 249) rfl jM230 jq230_248 ?_
                  refine jaL0 (p := 250) rfl jM230 jq230_249 ?_
                  refine jiL8 (p := 252) rfl jM230 jq230_250 ?_
                  refine jw_callV [(jb_v x7)] jM230 jq230_252 rfl rfl (jo_92 s24.1) rfl jM149 rfl rfl ?_
                  show jb_w (d + 1) 149 0 [some (.ref 92), some (jb_v x7)] [] σ24 (jb_k (d + 2) 230 252 [some (.ref 92), some (jb_v (x24.2)), some (jb_v l2), some (jb_v (l3 + (-1))), some (jb_v (G 117 (4 * (l3 + (-1))))), some (jb_v (G 117 ((4 * (l3 + (-1))) + 1))), some (jb_v (G 117 ((4 * (l3 + (-1))) + 2))), some (jb_v (G 117 ((4 * (l3 + (-1))) + 3))), some (jb_v x7), o9] [] Q)
                  refine jaL0 (p := 1) rfl jM149 jq149_0 ?_
                  refine jw_getP (p := 4) (i := 1) (q := 93) rfl jM149 jq149_1 rfl (jo_92 s24.1) je_11_1 (jp_92_1 s24.1) ?_
                  refine jw_bipush (p := 6) rfl jM149 jq149_4 (by decide) ?_
                  refine jiL1 (p := 7) rfl jM149 jq149_6 ?_
                  refine jw_imul (p := 8) rfl jM149 jq149_7 ?_
                  refine jg_iald (p := 9) rfl jM149 jq149_8 (ja_93 s24.1) c18.1 c18.2 s24 (by decide) rfl ?_
                  refine jw_iret jM149 jq149_9 (fun z => absurd z (by decide)) ?_
                  show jb_w (d + 2) 230 255 [some (.ref 92), some (jb_v (x24.2)), some (jb_v l2), some (jb_v (l3 + (-1))), some (jb_v (G 117 (4 * (l3 + (-1))))), some (jb_v (G 117 ((4 * (l3 + (-1))) + 1))), some (jb_v (G 117 ((4 * (l3 + (-1))) + 2))), some (jb_v (G 117 ((4 * (l3 + (-1))) + 3))), some (jb_v x7), o9] [(jb_v ((x24.1) 93 (67 * x7)))] σ24 Q
                  refine jw_iconst (p := 256) rfl jM230 jq230_255 ?_
                  refine jw_ic (p := 259) rfl jM230 jq230_256 (jc_ne (s24.r _ _) (jb_rn rfl)) (fun c28 => ?_) (fun c28 => ?_)
                  · have h28 := jo_n c28 h27
                    refine jw_iconst (p := 284) rfl jM230 jq230_283 ?_
                    refine jiS9 (p := 286) rfl jM230 jq230_284 ?_
                    obtain ⟨c29, h29⟩ := jo_i h28
                    exact ih.2 r24 hl2 c29 (s.r _ _) (s.r _ _) (s.r _ _) (s.r _ _) r7 (jb_rn rfl) h29 k σ24 s24
                  · have h28 := jo_p (Decidable.byContradiction c28) h27
                    refine jiL2 (p := 260) rfl jM230 jq230_259 ?_
                    refine jw_iconst (p := 261) rfl jM230 jq230_260 ?_
                    refine jw_ic (p := 264) rfl jM230 jq230_261 (jc_eq hl2 (jb_rn rfl)) (fun c30 => ?_) (fun c30 => ?_)
                    · have h30 := jo_p c30 h28
                      refine jiL1 (p := 279) rfl jM230 jq230_278 ?_
                      refine jiS1 (p := 280) rfl jM230 jq230_279 ?_
                      refine jiL7 (p := 282) rfl jM230 jq230_280 ?_
                      refine jiS2 (p := 283) rfl jM230 jq230_282 ?_
                      refine jw_iconst (p := 284) rfl jM230 jq230_283 ?_
                      refine jiS9 (p := 286) rfl jM230 jq230_284 ?_
                      obtain ⟨c31, h31⟩ := jo_i h30
                      exact ih.2 r24 (s.r _ _) c31 (s.r _ _) (s.r _ _) (s.r _ _) (s.r _ _) r7 (jb_rn rfl) h31 k σ24 s24
                    · have h30 := jo_n c30 h28
                      refine jiL2 (p := 265) rfl jM230 jq230_264 ?_
                      refine jiL7 (p := 267) rfl jM230 jq230_265 ?_
                      refine jw_ic (p := 270) rfl jM230 jq230_267 (jc_eq hl2 (s.r _ _)) (fun c32 => ?_) (fun c32 => ?_)
                      · have h32 := jo_p c32 h30
                        refine jiL1 (p := 279) rfl jM230 jq230_278 ?_
                        refine jiS1 (p := 280) rfl jM230 jq230_279 ?_
                        refine jiL7 (p := 282) rfl jM230 jq230_280 ?_
                        refine jiS2 (p := 283) rfl jM230 jq230_282 ?_
                        refine jw_iconst (p := 284) rfl jM230 jq230_283 ?_
                        refine jiS9 (p := 286) rfl jM230 jq230_284 ?_
                        obtain ⟨c33, h33⟩ := jo_i h32
                        exact ih.2 r24 (s.r _ _) c33 (s.r _ _) (s.r _ _) (s.r _ _) (s.r _ _) r7 (jb_rn rfl) h33 k σ24 s24
                      · have h32 := jo_n c32 h30
                        refine jiL1 (p := 271) rfl jM230 jq230_270 ?_
                        refine jw_iconst (p := 272) rfl jM230 jq230_271 ?_
                        refine jw_callS [(jb_v (x24.2)), (jb_v 4)] jM230 jq230_272 rfl rfl rfl jM228 rfl rfl ?_
                        obtain ⟨x34, b35, h35⟩ := jo_b h32
                        refine jf228 r24 (jb_rn rfl) b35 (fun σ34 s34 r34 => ?_) σ24 s24
                        show jb_w (d + 2) 230 275 [some (.ref 92), some (jb_v (x24.2)), some (jb_v l2), some (jb_v (l3 + (-1))), some (jb_v (G 117 (4 * (l3 + (-1))))), some (jb_v (G 117 ((4 * (l3 + (-1))) + 1))), some (jb_v (G 117 ((4 * (l3 + (-1))) + 2))), some (jb_v (G 117 ((4 * (l3 + (-1))) + 3))), some (jb_v x7), o9] [(jb_v (x34.2))] σ34 Q
                        refine jw_goto jM230 jq230_275 ?_
                        refine jiS1 (p := 280) rfl jM230 jq230_279 ?_
                        refine jiL7 (p := 282) rfl jM230 jq230_280 ?_
                        refine jiS2 (p := 283) rfl jM230 jq230_282 ?_
                        refine jw_iconst (p := 284) rfl jM230 jq230_283 ?_
                        refine jiS9 (p := 286) rfl jM230 jq230_284 ?_
                        obtain ⟨c36, h36⟩ := jo_i h35
                        exact ih.2 r34 (s.r _ _) c36 (s.r _ _) (s.r _ _) (s.r _ _) (s.r _ _) r7 (jb_rn rfl) h36 k σ34 s34
                · have h27 := jo_p (Decidable.byContradiction c27) h26
                  refine jiL4 (p := 226) rfl jM230 jq230_224 ?_
                  refine jw_if (p := 229) rfl jM230 jq230_226 (jc_ne (s.r _ _) jb_r0) (fun c37 => ?_) (fun c37 => ?_)
                  · have h37 := jo_n c37 h27
                    refine jiL1 (p := 240) rfl jM230 jq230_239 ?_
                    refine jw_iconst (p := 241) rfl jM230 jq230_240 ?_
                    refine jw_callS [(jb_v (x24.2)), (jb_v 5)] jM230 jq230_241 rfl rfl rfl jM228 rfl rfl ?_
                    obtain ⟨x38, b39, h39⟩ := jo_b h37
                    refine jf228 r24 (jb_rn rfl) b39 (fun σ38 s38 r38 => ?_) σ24 s24
                    show jb_w (d + 2) 230 244 [some (.ref 92), some (jb_v (x24.2)), some (jb_v l2), some (jb_v (l3 + (-1))), some (jb_v (G 117 (4 * (l3 + (-1))))), some (jb_v (G 117 ((4 * (l3 + (-1))) + 1))), some (jb_v (G 117 ((4 * (l3 + (-1))) + 2))), some (jb_v (G 117 ((4 * (l3 + (-1))) + 3))), some (jb_v x7), o9] [(jb_v (x38.2))] σ38 Q
                    refine jw_goto jM230 jq230_244 ?_
                    refine jiS1 (p := 249) rfl jM230 jq230_248 ?_
                    refine jaL0 (p := 250) rfl jM230 jq230_249 ?_
                    refine jiL8 (p := 252) rfl jM230 jq230_250 ?_
                    refine jw_callV [(jb_v x7)] jM230 jq230_252 rfl rfl (jo_92 s38.1) rfl jM149 rfl rfl ?_
                    show jb_w (d + 1) 149 0 [some (.ref 92), some (jb_v x7)] [] σ38 (jb_k (d + 2) 230 252 [some (.ref 92), some (jb_v (x38.2)), some (jb_v l2), some (jb_v (l3 + (-1))), some (jb_v (G 117 (4 * (l3 + (-1))))), some (jb_v (G 117 ((4 * (l3 + (-1))) + 1))), some (jb_v (G 117 ((4 * (l3 + (-1))) + 2))), some (jb_v (G 117 ((4 * (l3 + (-1))) + 3))), some (jb_v x7), o9] [] Q)
                    refine jaL0 (p := 1) rfl jM149 jq149_0 ?_
                    refine jw_getP (p := 4) (i := 1) (q := 93) rfl jM149 jq149_1 rfl (jo_92 s38.1) je_11_1 (jp_92_1 s38.1) ?_
                    refine jw_bipush (p := 6) rfl jM149 jq149_4 (by decide) ?_
                    refine jiL1 (p := 7) rfl jM149 jq149_6 ?_
                    refine jw_imul (p := 8) rfl jM149 jq149_7 ?_
                    refine jg_iald (p := 9) rfl jM149 jq149_8 (ja_93 s38.1) c18.1 c18.2 s38 (by decide) rfl ?_
                    refine jw_iret jM149 jq149_9 (fun z => absurd z (by decide)) ?_
                    show jb_w (d + 2) 230 255 [some (.ref 92), some (jb_v (x38.2)), some (jb_v l2), some (jb_v (l3 + (-1))), some (jb_v (G 117 (4 * (l3 + (-1))))), some (jb_v (G 117 ((4 * (l3 + (-1))) + 1))), some (jb_v (G 117 ((4 * (l3 + (-1))) + 2))), some (jb_v (G 117 ((4 * (l3 + (-1))) + 3))), some (jb_v x7), o9] [(jb_v ((x38.1) 93 (67 * x7)))] σ38 Q
                    refine jw_iconst (p := 256) rfl jM230 jq230_255 ?_
                    refine jw_ic (p := 259) rfl jM230 jq230_256 (jc_ne (s38.r _ _) (jb_rn rfl)) (fun c40 => ?_) (fun c40 => ?_)
                    · have h40 := jo_n c40 h39
                      refine jw_iconst (p := 284) rfl jM230 jq230_283 ?_
                      refine jiS9 (p := 286) rfl jM230 jq230_284 ?_
                      obtain ⟨c41, h41⟩ := jo_i h40
                      exact ih.2 r38 hl2 c41 (s.r _ _) (s.r _ _) (s.r _ _) (s.r _ _) r7 (jb_rn rfl) h41 k σ38 s38
                    · have h40 := jo_p (Decidable.byContradiction c40) h39
                      refine jiL2 (p := 260) rfl jM230 jq230_259 ?_
                      refine jw_iconst (p := 261) rfl jM230 jq230_260 ?_
                      refine jw_ic (p := 264) rfl jM230 jq230_261 (jc_eq hl2 (jb_rn rfl)) (fun c42 => ?_) (fun c42 => ?_)
                      · have h42 := jo_p c42 h40
                        refine jiL1 (p := 279) rfl jM230 jq230_278 ?_
                        refine jiS1 (p := 280) rfl jM230 jq230_279 ?_
                        refine jiL7 (p := 282) rfl jM230 jq230_280 ?_
                        refine jiS2 (p := 283) rfl jM230 jq230_282 ?_
                        refine jw_iconst (p := 284) rfl jM230 jq230_283 ?_
                        refine jiS9 (p := 286) rfl jM230 jq230_284 ?_
                        obtain ⟨c43, h43⟩ := jo_i h42
                        exact ih.2 r38 (s.r _ _) c43 (s.r _ _) (s.r _ _) (s.r _ _) (s.r _ _) r7 (jb_rn rfl) h43 k σ38 s38
                      · have h42 := jo_n c42 h40
                        refine jiL2 (p := 265) rfl jM230 jq230_264 ?_
                        refine jiL7 (p := 267) rfl jM230 jq230_265 ?_
                        refine jw_ic (p := 270) rfl jM230 jq230_267 (jc_eq hl2 (s.r _ _)) (fun c44 => ?_) (fun c44 => ?_)
                        · have h44 := jo_p c44 h42
                          refine jiL1 (p := 279) rfl jM230 jq230_278 ?_
                          refine jiS1 (p := 280) rfl jM230 jq230_279 ?_
                          refine jiL7 (p := 282) rfl jM230 jq230_280 ?_
                          refine jiS2 (p := 283) rfl jM230 jq230_282 ?_
                          refine jw_iconst (p := 284) rfl jM230 jq230_283 ?_
                          refine jiS9 (p := 286) rfl jM230 jq230_284 ?_
                          obtain ⟨c45, h45⟩ := jo_i h44
                          exact ih.2 r38 (s.r _ _) c45 (s.r _ _) (s.r _ _) (s.r _ _) (s.r _ _) r7 (jb_rn rfl) h45 k σ38 s38
                        · have h44 := jo_n c44 h42
                          refine jiL1 (p := 271) rfl jM230 jq230_270 ?_
                          refine jw_iconst (p := 272) rfl jM230 jq230_271 ?_
                          refine jw_callS [(jb_v (x38.2)), (jb_v 4)] jM230 jq230_272 rfl rfl rfl jM228 rfl rfl ?_
                          obtain ⟨x46, b47, h47⟩ := jo_b h44
                          refine jf228 r38 (jb_rn rfl) b47 (fun σ46 s46 r46 => ?_) σ38 s38
                          show jb_w (d + 2) 230 275 [some (.ref 92), some (jb_v (x38.2)), some (jb_v l2), some (jb_v (l3 + (-1))), some (jb_v (G 117 (4 * (l3 + (-1))))), some (jb_v (G 117 ((4 * (l3 + (-1))) + 1))), some (jb_v (G 117 ((4 * (l3 + (-1))) + 2))), some (jb_v (G 117 ((4 * (l3 + (-1))) + 3))), some (jb_v x7), o9] [(jb_v (x46.2))] σ46 Q
                          refine jw_goto jM230 jq230_275 ?_
                          refine jiS1 (p := 280) rfl jM230 jq230_279 ?_
                          refine jiL7 (p := 282) rfl jM230 jq230_280 ?_
                          refine jiS2 (p := 283) rfl jM230 jq230_282 ?_
                          refine jw_iconst (p := 284) rfl jM230 jq230_283 ?_
                          refine jiS9 (p := 286) rfl jM230 jq230_284 ?_
                          obtain ⟨c48, h48⟩ := jo_i h47
                          exact ih.2 r46 (s.r _ _) c48 (s.r _ _) (s.r _ _) (s.r _ _) (s.r _ _) r7 (jb_rn rfl) h48 k σ46 s46
                  · have h37 := jo_p (Decidable.byContradiction c37) h27
                    refine jaL0 (p := 230) rfl jM230 jq230_229 ?_
                    refine jiL8 (p := 232) rfl jM230 jq230_230 ?_
                    refine jw_callV [(jb_v x7)] jM230 jq230_232 rfl rfl (jo_92 s24.1) rfl jM149 rfl rfl ?_
                    show jb_w (d + 1) 149 0 [some (.ref 92), some (jb_v x7)] [] σ24 (jb_k (d + 2) 230 232 [some (.ref 92), some (jb_v (x24.2)), some (jb_v l2), some (jb_v (l3 + (-1))), some (jb_v (G 117 (4 * (l3 + (-1))))), some (jb_v (G 117 ((4 * (l3 + (-1))) + 1))), some (jb_v (G 117 ((4 * (l3 + (-1))) + 2))), some (jb_v (G 117 ((4 * (l3 + (-1))) + 3))), some (jb_v x7), o9] [] Q)
                    refine jaL0 (p := 1) rfl jM149 jq149_0 ?_
                    refine jw_getP (p := 4) (i := 1) (q := 93) rfl jM149 jq149_1 rfl (jo_92 s24.1) je_11_1 (jp_92_1 s24.1) ?_
                    refine jw_bipush (p := 6) rfl jM149 jq149_4 (by decide) ?_
                    refine jiL1 (p := 7) rfl jM149 jq149_6 ?_
                    refine jw_imul (p := 8) rfl jM149 jq149_7 ?_
                    refine jg_iald (p := 9) rfl jM149 jq149_8 (ja_93 s24.1) c18.1 c18.2 s24 (by decide) rfl ?_
                    refine jw_iret jM149 jq149_9 (fun z => absurd z (by decide)) ?_
                    show jb_w (d + 2) 230 235 [some (.ref 92), some (jb_v (x24.2)), some (jb_v l2), some (jb_v (l3 + (-1))), some (jb_v (G 117 (4 * (l3 + (-1))))), some (jb_v (G 117 ((4 * (l3 + (-1))) + 1))), some (jb_v (G 117 ((4 * (l3 + (-1))) + 2))), some (jb_v (G 117 ((4 * (l3 + (-1))) + 3))), some (jb_v x7), o9] [(jb_v ((x24.1) 93 (67 * x7)))] σ24 Q
                    refine jw_iconst (p := 236) rfl jM230 jq230_235 ?_
                    refine jw_ic (p := 239) rfl jM230 jq230_236 (jc_ne (s24.r _ _) (jb_rn rfl)) (fun c49 => ?_) (fun c49 => ?_)
                    · have h49 := jo_n c49 h37
                      refine jiL1 (p := 248) rfl jM230 jq230_247 ?_
                      refine jiS1 (p := 249) rfl jM230 jq230_248 ?_
                      refine jaL0 (p := 250) rfl jM230 jq230_249 ?_
                      refine jiL8 (p := 252) rfl jM230 jq230_250 ?_
                      refine jw_callV [(jb_v x7)] jM230 jq230_252 rfl rfl (jo_92 s24.1) rfl jM149 rfl rfl ?_
                      show jb_w (d + 1) 149 0 [some (.ref 92), some (jb_v x7)] [] σ24 (jb_k (d + 2) 230 252 [some (.ref 92), some (jb_v (x24.2)), some (jb_v l2), some (jb_v (l3 + (-1))), some (jb_v (G 117 (4 * (l3 + (-1))))), some (jb_v (G 117 ((4 * (l3 + (-1))) + 1))), some (jb_v (G 117 ((4 * (l3 + (-1))) + 2))), some (jb_v (G 117 ((4 * (l3 + (-1))) + 3))), some (jb_v x7), o9] [] Q)
                      refine jaL0 (p := 1) rfl jM149 jq149_0 ?_
                      refine jw_getP (p := 4) (i := 1) (q := 93) rfl jM149 jq149_1 rfl (jo_92 s24.1) je_11_1 (jp_92_1 s24.1) ?_
                      refine jw_bipush (p := 6) rfl jM149 jq149_4 (by decide) ?_
                      refine jiL1 (p := 7) rfl jM149 jq149_6 ?_
                      refine jw_imul (p := 8) rfl jM149 jq149_7 ?_
                      refine jg_iald (p := 9) rfl jM149 jq149_8 (ja_93 s24.1) c18.1 c18.2 s24 (by decide) rfl ?_
                      refine jw_iret jM149 jq149_9 (fun z => absurd z (by decide)) ?_
                      show jb_w (d + 2) 230 255 [some (.ref 92), some (jb_v (x24.2)), some (jb_v l2), some (jb_v (l3 + (-1))), some (jb_v (G 117 (4 * (l3 + (-1))))), some (jb_v (G 117 ((4 * (l3 + (-1))) + 1))), some (jb_v (G 117 ((4 * (l3 + (-1))) + 2))), some (jb_v (G 117 ((4 * (l3 + (-1))) + 3))), some (jb_v x7), o9] [(jb_v ((x24.1) 93 (67 * x7)))] σ24 Q
                      refine jw_iconst (p := 256) rfl jM230 jq230_255 ?_
                      refine jw_ic (p := 259) rfl jM230 jq230_256 (jc_ne (s24.r _ _) (jb_rn rfl)) (fun c50 => ?_) (fun c50 => ?_)
                      · have h50 := jo_n c50 h49
                        refine jw_iconst (p := 284) rfl jM230 jq230_283 ?_
                        refine jiS9 (p := 286) rfl jM230 jq230_284 ?_
                        obtain ⟨c51, h51⟩ := jo_i h50
                        exact ih.2 r24 hl2 c51 (s.r _ _) (s.r _ _) (s.r _ _) (s.r _ _) r7 (jb_rn rfl) h51 k σ24 s24
                      · have h50 := jo_p (Decidable.byContradiction c50) h49
                        refine jiL2 (p := 260) rfl jM230 jq230_259 ?_
                        refine jw_iconst (p := 261) rfl jM230 jq230_260 ?_
                        refine jw_ic (p := 264) rfl jM230 jq230_261 (jc_eq hl2 (jb_rn rfl)) (fun c52 => ?_) (fun c52 => ?_)
                        · have h52 := jo_p c52 h50
                          refine jiL1 (p := 279) rfl jM230 jq230_278 ?_
                          refine jiS1 (p := 280) rfl jM230 jq230_279 ?_
                          refine jiL7 (p := 282) rfl jM230 jq230_280 ?_
                          refine jiS2 (p := 283) rfl jM230 jq230_282 ?_
                          refine jw_iconst (p := 284) rfl jM230 jq230_283 ?_
                          refine jiS9 (p := 286) rfl jM230 jq230_284 ?_
                          obtain ⟨c53, h53⟩ := jo_i h52
                          exact ih.2 r24 (s.r _ _) c53 (s.r _ _) (s.r _ _) (s.r _ _) (s.r _ _) r7 (jb_rn rfl) h53 k σ24 s24
                        · have h52 := jo_n c52 h50
                          refine jiL2 (p := 265) rfl jM230 jq230_264 ?_
                          refine jiL7 (p := 267) rfl jM230 jq230_265 ?_
                          refine jw_ic (p := 270) rfl jM230 jq230_267 (jc_eq hl2 (s.r _ _)) (fun c54 => ?_) (fun c54 => ?_)
                          · have h54 := jo_p c54 h52
                            refine jiL1 (p := 279) rfl jM230 jq230_278 ?_
                            refine jiS1 (p := 280) rfl jM230 jq230_279 ?_
                            refine jiL7 (p := 282) rfl jM230 jq230_280 ?_
                            refine jiS2 (p := 283) rfl jM230 jq230_282 ?_
                            refine jw_iconst (p := 284) rfl jM230 jq230_283 ?_
                            refine jiS9 (p := 286) rfl jM230 jq230_284 ?_
                            obtain ⟨c55, h55⟩ := jo_i h54
                            exact ih.2 r24 (s.r _ _) c55 (s.r _ _) (s.r _ _) (s.r _ _) (s.r _ _) r7 (jb_rn rfl) h55 k σ24 s24
                          · have h54 := jo_n c54 h52
                            refine jiL1 (p := 271) rfl jM230 jq230_270 ?_
                            refine jw_iconst (p := 272) rfl jM230 jq230_271 ?_
                            refine jw_callS [(jb_v (x24.2)), (jb_v 4)] jM230 jq230_272 rfl rfl rfl jM228 rfl rfl ?_
                            obtain ⟨x56, b57, h57⟩ := jo_b h54
                            refine jf228 r24 (jb_rn rfl) b57 (fun σ56 s56 r56 => ?_) σ24 s24
                            show jb_w (d + 2) 230 275 [some (.ref 92), some (jb_v (x24.2)), some (jb_v l2), some (jb_v (l3 + (-1))), some (jb_v (G 117 (4 * (l3 + (-1))))), some (jb_v (G 117 ((4 * (l3 + (-1))) + 1))), some (jb_v (G 117 ((4 * (l3 + (-1))) + 2))), some (jb_v (G 117 ((4 * (l3 + (-1))) + 3))), some (jb_v x7), o9] [(jb_v (x56.2))] σ56 Q
                            refine jw_goto jM230 jq230_275 ?_
                            refine jiS1 (p := 280) rfl jM230 jq230_279 ?_
                            refine jiL7 (p := 282) rfl jM230 jq230_280 ?_
                            refine jiS2 (p := 283) rfl jM230 jq230_282 ?_
                            refine jw_iconst (p := 284) rfl jM230 jq230_283 ?_
                            refine jiS9 (p := 286) rfl jM230 jq230_284 ?_
                            obtain ⟨c58, h58⟩ := jo_i h57
                            exact ih.2 r56 (s.r _ _) c58 (s.r _ _) (s.r _ _) (s.r _ _) (s.r _ _) r7 (jb_rn rfl) h58 k σ56 s56
                    · have h49 := jo_p (Decidable.byContradiction c49) h37
                      refine jiL1 (p := 240) rfl jM230 jq230_239 ?_
                      refine jw_iconst (p := 241) rfl jM230 jq230_240 ?_
                      refine jw_callS [(jb_v (x24.2)), (jb_v 5)] jM230 jq230_241 rfl rfl rfl jM228 rfl rfl ?_
                      obtain ⟨x59, b60, h60⟩ := jo_b h49
                      refine jf228 r24 (jb_rn rfl) b60 (fun σ59 s59 r59 => ?_) σ24 s24
                      show jb_w (d + 2) 230 244 [some (.ref 92), some (jb_v (x24.2)), some (jb_v l2), some (jb_v (l3 + (-1))), some (jb_v (G 117 (4 * (l3 + (-1))))), some (jb_v (G 117 ((4 * (l3 + (-1))) + 1))), some (jb_v (G 117 ((4 * (l3 + (-1))) + 2))), some (jb_v (G 117 ((4 * (l3 + (-1))) + 3))), some (jb_v x7), o9] [(jb_v (x59.2))] σ59 Q
                      refine jw_goto jM230 jq230_244 ?_
                      refine jiS1 (p := 249) rfl jM230 jq230_248 ?_
                      refine jaL0 (p := 250) rfl jM230 jq230_249 ?_
                      refine jiL8 (p := 252) rfl jM230 jq230_250 ?_
                      refine jw_callV [(jb_v x7)] jM230 jq230_252 rfl rfl (jo_92 s59.1) rfl jM149 rfl rfl ?_
                      show jb_w (d + 1) 149 0 [some (.ref 92), some (jb_v x7)] [] σ59 (jb_k (d + 2) 230 252 [some (.ref 92), some (jb_v (x59.2)), some (jb_v l2), some (jb_v (l3 + (-1))), some (jb_v (G 117 (4 * (l3 + (-1))))), some (jb_v (G 117 ((4 * (l3 + (-1))) + 1))), some (jb_v (G 117 ((4 * (l3 + (-1))) + 2))), some (jb_v (G 117 ((4 * (l3 + (-1))) + 3))), some (jb_v x7), o9] [] Q)
                      refine jaL0 (p := 1) rfl jM149 jq149_0 ?_
                      refine jw_getP (p := 4) (i := 1) (q := 93) rfl jM149 jq149_1 rfl (jo_92 s59.1) je_11_1 (jp_92_1 s59.1) ?_
                      refine jw_bipush (p := 6) rfl jM149 jq149_4 (by decide) ?_
                      refine jiL1 (p := 7) rfl jM149 jq149_6 ?_
                      refine jw_imul (p := 8) rfl jM149 jq149_7 ?_
                      refine jg_iald (p := 9) rfl jM149 jq149_8 (ja_93 s59.1) c18.1 c18.2 s59 (by decide) rfl ?_
                      refine jw_iret jM149 jq149_9 (fun z => absurd z (by decide)) ?_
                      show jb_w (d + 2) 230 255 [some (.ref 92), some (jb_v (x59.2)), some (jb_v l2), some (jb_v (l3 + (-1))), some (jb_v (G 117 (4 * (l3 + (-1))))), some (jb_v (G 117 ((4 * (l3 + (-1))) + 1))), some (jb_v (G 117 ((4 * (l3 + (-1))) + 2))), some (jb_v (G 117 ((4 * (l3 + (-1))) + 3))), some (jb_v x7), o9] [(jb_v ((x59.1) 93 (67 * x7)))] σ59 Q
                      refine jw_iconst (p := 256) rfl jM230 jq230_255 ?_
                      refine jw_ic (p := 259) rfl jM230 jq230_256 (jc_ne (s59.r _ _) (jb_rn rfl)) (fun c61 => ?_) (fun c61 => ?_)
                      · have h61 := jo_n c61 h60
                        refine jw_iconst (p := 284) rfl jM230 jq230_283 ?_
                        refine jiS9 (p := 286) rfl jM230 jq230_284 ?_
                        obtain ⟨c62, h62⟩ := jo_i h61
                        exact ih.2 r59 hl2 c62 (s.r _ _) (s.r _ _) (s.r _ _) (s.r _ _) r7 (jb_rn rfl) h62 k σ59 s59
                      · have h61 := jo_p (Decidable.byContradiction c61) h60
                        refine jiL2 (p := 260) rfl jM230 jq230_259 ?_
                        refine jw_iconst (p := 261) rfl jM230 jq230_260 ?_
                        refine jw_ic (p := 264) rfl jM230 jq230_261 (jc_eq hl2 (jb_rn rfl)) (fun c63 => ?_) (fun c63 => ?_)
                        · have h63 := jo_p c63 h61
                          refine jiL1 (p := 279) rfl jM230 jq230_278 ?_
                          refine jiS1 (p := 280) rfl jM230 jq230_279 ?_
                          refine jiL7 (p := 282) rfl jM230 jq230_280 ?_
                          refine jiS2 (p := 283) rfl jM230 jq230_282 ?_
                          refine jw_iconst (p := 284) rfl jM230 jq230_283 ?_
                          refine jiS9 (p := 286) rfl jM230 jq230_284 ?_
                          obtain ⟨c64, h64⟩ := jo_i h63
                          exact ih.2 r59 (s.r _ _) c64 (s.r _ _) (s.r _ _) (s.r _ _) (s.r _ _) r7 (jb_rn rfl) h64 k σ59 s59
                        · have h63 := jo_n c63 h61
                          refine jiL2 (p := 265) rfl jM230 jq230_264 ?_
                          refine jiL7 (p := 267) rfl jM230 jq230_265 ?_
                          refine jw_ic (p := 270) rfl jM230 jq230_267 (jc_eq hl2 (s.r _ _)) (fun c65 => ?_) (fun c65 => ?_)
                          · have h65 := jo_p c65 h63
                            refine jiL1 (p := 279) rfl jM230 jq230_278 ?_
                            refine jiS1 (p := 280) rfl jM230 jq230_279 ?_
                            refine jiL7 (p := 282) rfl jM230 jq230_280 ?_
                            refine jiS2 (p := 283) rfl jM230 jq230_282 ?_
                            refine jw_iconst (p := 284) rfl jM230 jq230_283 ?_
                            refine jiS9 (p := 286) rfl jM230 jq230_284 ?_
                            obtain ⟨c66, h66⟩ := jo_i h65
                            exact ih.2 r59 (s.r _ _) c66 (s.r _ _) (s.r _ _) (s.r _ _) (s.r _ _) r7 (jb_rn rfl) h66 k σ59 s59
                          · have h65 := jo_n c65 h63
                            refine jiL1 (p := 271) rfl jM230 jq230_270 ?_
                            refine jw_iconst (p := 272) rfl jM230 jq230_271 ?_
                            refine jw_callS [(jb_v (x59.2)), (jb_v 4)] jM230 jq230_272 rfl rfl rfl jM228 rfl rfl ?_
                            obtain ⟨x67, b68, h68⟩ := jo_b h65
                            refine jf228 r59 (jb_rn rfl) b68 (fun σ67 s67 r67 => ?_) σ59 s59
                            show jb_w (d + 2) 230 275 [some (.ref 92), some (jb_v (x59.2)), some (jb_v l2), some (jb_v (l3 + (-1))), some (jb_v (G 117 (4 * (l3 + (-1))))), some (jb_v (G 117 ((4 * (l3 + (-1))) + 1))), some (jb_v (G 117 ((4 * (l3 + (-1))) + 2))), some (jb_v (G 117 ((4 * (l3 + (-1))) + 3))), some (jb_v x7), o9] [(jb_v (x67.2))] σ67 Q
                            refine jw_goto jM230 jq230_275 ?_
                            refine jiS1 (p := 280) rfl jM230 jq230_279 ?_
                            refine jiL7 (p := 282) rfl jM230 jq230_280 ?_
                            refine jiS2 (p := 283) rfl jM230 jq230_282 ?_
                            refine jw_iconst (p := 284) rfl jM230 jq230_283 ?_
                            refine jiS9 (p := 286) rfl jM230 jq230_284 ?_
                            obtain ⟨c69, h69⟩ := jo_i h68
                            exact ih.2 r67 (s.r _ _) c69 (s.r _ _) (s.r _ _) (s.r _ _) (s.r _ _) r7 (jb_rn rfl) h69 k σ67 s67
              · have h23 := jo_n c23 h22
                refine jiL1 (p := 206) rfl jM230 jq230_205 ?_
                refine jw_goto jM230 jq230_206 ?_
                refine jiS1 (p := 215) rfl jM230 jq230_214 ?_
                refine jaL0 (p := 216) rfl jM230 jq230_215 ?_
                refine jiL8 (p := 218) rfl jM230 jq230_216 ?_
                refine jw_callV [(jb_v x7)] jM230 jq230_218 rfl rfl (jo_92 s21.1) rfl jM150 rfl rfl ?_
                show jb_w (d + 1) 150 0 [some (.ref 92), some (jb_v x7)] [] σ21 (jb_k (d + 2) 230 218 [some (.ref 92), some (jb_v l1), some (jb_v l2), some (jb_v (l3 + (-1))), some (jb_v (G 117 (4 * (l3 + (-1))))), some (jb_v (G 117 ((4 * (l3 + (-1))) + 1))), some (jb_v (G 117 ((4 * (l3 + (-1))) + 2))), some (jb_v (G 117 ((4 * (l3 + (-1))) + 3))), some (jb_v x7), o9] [] Q)
                refine jaL0 (p := 1) rfl jM150 jq150_0 ?_
                refine jw_getP (p := 4) (i := 1) (q := 93) rfl jM150 jq150_1 rfl (jo_92 s21.1) je_11_1 (jp_92_1 s21.1) ?_
                refine jw_bipush (p := 6) rfl jM150 jq150_4 (by decide) ?_
                refine jiL1 (p := 7) rfl jM150 jq150_6 ?_
                refine jw_imul (p := 8) rfl jM150 jq150_7 ?_
                refine jw_iconst (p := 9) rfl jM150 jq150_8 ?_
                refine jw_iadd (p := 10) rfl jM150 jq150_9 ?_
                obtain ⟨c70, h70⟩ := jo_i h23
                refine jg_iald (p := 11) rfl jM150 jq150_10 (ja_93 s21.1) c70.1 c70.2 s21 (by decide) rfl ?_
                refine jw_iret jM150 jq150_11 (fun z => absurd z (by decide)) ?_
                show jb_w (d + 2) 230 221 [some (.ref 92), some (jb_v l1), some (jb_v l2), some (jb_v (l3 + (-1))), some (jb_v (G 117 (4 * (l3 + (-1))))), some (jb_v (G 117 ((4 * (l3 + (-1))) + 1))), some (jb_v (G 117 ((4 * (l3 + (-1))) + 2))), some (jb_v (G 117 ((4 * (l3 + (-1))) + 3))), some (jb_v x7), o9] [(jb_v ((x21.1) 93 ((67 * x7) + 2)))] σ21 Q
                refine jw_if (p := 224) rfl jM230 jq230_221 (jc_ne (s21.r _ _) jb_r0) (fun c71 => ?_) (fun c71 => ?_)
                · have h71 := jo_n c71 h70
                  refine jiL1 (p := 248) rfl jM230 jq230_247 ?_
                  refine jiS1 (p := 249) rfl jM230 jq230_248 ?_
                  refine jaL0 (p := 250) rfl jM230 jq230_249 ?_
                  refine jiL8 (p := 252) rfl jM230 jq230_250 ?_
                  refine jw_callV [(jb_v x7)] jM230 jq230_252 rfl rfl (jo_92 s21.1) rfl jM149 rfl rfl ?_
                  show jb_w (d + 1) 149 0 [some (.ref 92), some (jb_v x7)] [] σ21 (jb_k (d + 2) 230 252 [some (.ref 92), some (jb_v l1), some (jb_v l2), some (jb_v (l3 + (-1))), some (jb_v (G 117 (4 * (l3 + (-1))))), some (jb_v (G 117 ((4 * (l3 + (-1))) + 1))), some (jb_v (G 117 ((4 * (l3 + (-1))) + 2))), some (jb_v (G 117 ((4 * (l3 + (-1))) + 3))), some (jb_v x7), o9] [] Q)
                  refine jaL0 (p := 1) rfl jM149 jq149_0 ?_
                  refine jw_getP (p := 4) (i := 1) (q := 93) rfl jM149 jq149_1 rfl (jo_92 s21.1) je_11_1 (jp_92_1 s21.1) ?_
                  refine jw_bipush (p := 6) rfl jM149 jq149_4 (by decide) ?_
                  refine jiL1 (p := 7) rfl jM149 jq149_6 ?_
                  refine jw_imul (p := 8) rfl jM149 jq149_7 ?_
                  refine jg_iald (p := 9) rfl jM149 jq149_8 (ja_93 s21.1) c18.1 c18.2 s21 (by decide) rfl ?_
                  refine jw_iret jM149 jq149_9 (fun z => absurd z (by decide)) ?_
                  show jb_w (d + 2) 230 255 [some (.ref 92), some (jb_v l1), some (jb_v l2), some (jb_v (l3 + (-1))), some (jb_v (G 117 (4 * (l3 + (-1))))), some (jb_v (G 117 ((4 * (l3 + (-1))) + 1))), some (jb_v (G 117 ((4 * (l3 + (-1))) + 2))), some (jb_v (G 117 ((4 * (l3 + (-1))) + 3))), some (jb_v x7), o9] [(jb_v ((x21.1) 93 (67 * x7)))] σ21 Q
                  refine jw_iconst (p := 256) rfl jM230 jq230_255 ?_
                  refine jw_ic (p := 259) rfl jM230 jq230_256 (jc_ne (s21.r _ _) (jb_rn rfl)) (fun c72 => ?_) (fun c72 => ?_)
                  · have h72 := jo_n c72 h71
                    refine jw_iconst (p := 284) rfl jM230 jq230_283 ?_
                    refine jiS9 (p := 286) rfl jM230 jq230_284 ?_
                    obtain ⟨c73, h73⟩ := jo_i h72
                    exact ih.2 hl1 hl2 c73 (s.r _ _) (s.r _ _) (s.r _ _) (s.r _ _) r7 (jb_rn rfl) h73 k σ21 s21
                  · have h72 := jo_p (Decidable.byContradiction c72) h71
                    refine jiL2 (p := 260) rfl jM230 jq230_259 ?_
                    refine jw_iconst (p := 261) rfl jM230 jq230_260 ?_
                    refine jw_ic (p := 264) rfl jM230 jq230_261 (jc_eq hl2 (jb_rn rfl)) (fun c74 => ?_) (fun c74 => ?_)
                    · have h74 := jo_p c74 h72
                      refine jiL1 (p := 279) rfl jM230 jq230_278 ?_
                      refine jiS1 (p := 280) rfl jM230 jq230_279 ?_
                      refine jiL7 (p := 282) rfl jM230 jq230_280 ?_
                      refine jiS2 (p := 283) rfl jM230 jq230_282 ?_
                      refine jw_iconst (p := 284) rfl jM230 jq230_283 ?_
                      refine jiS9 (p := 286) rfl jM230 jq230_284 ?_
                      obtain ⟨c75, h75⟩ := jo_i h74
                      exact ih.2 hl1 (s.r _ _) c75 (s.r _ _) (s.r _ _) (s.r _ _) (s.r _ _) r7 (jb_rn rfl) h75 k σ21 s21
                    · have h74 := jo_n c74 h72
                      refine jiL2 (p := 265) rfl jM230 jq230_264 ?_
                      refine jiL7 (p := 267) rfl jM230 jq230_265 ?_
                      refine jw_ic (p := 270) rfl jM230 jq230_267 (jc_eq hl2 (s.r _ _)) (fun c76 => ?_) (fun c76 => ?_)
                      · have h76 := jo_p c76 h74
                        refine jiL1 (p := 279) rfl jM230 jq230_278 ?_
                        refine jiS1 (p := 280) rfl jM230 jq230_279 ?_
                        refine jiL7 (p := 282) rfl jM230 jq230_280 ?_
                        refine jiS2 (p := 283) rfl jM230 jq230_282 ?_
                        refine jw_iconst (p := 284) rfl jM230 jq230_283 ?_
                        refine jiS9 (p := 286) rfl jM230 jq230_284 ?_
                        obtain ⟨c77, h77⟩ := jo_i h76
                        exact ih.2 hl1 (s.r _ _) c77 (s.r _ _) (s.r _ _) (s.r _ _) (s.r _ _) r7 (jb_rn rfl) h77 k σ21 s21
                      · have h76 := jo_n c76 h74
                        refine jiL1 (p := 271) rfl jM230 jq230_270 ?_
                        refine jw_iconst (p := 272) rfl jM230 jq230_271 ?_
                        refine jw_callS [(jb_v l1), (jb_v 4)] jM230 jq230_272 rfl rfl rfl jM228 rfl rfl ?_
                        obtain ⟨x78, b79, h79⟩ := jo_b h76
                        refine jf228 hl1 (jb_rn rfl) b79 (fun σ78 s78 r78 => ?_) σ21 s21
                        show jb_w (d + 2) 230 275 [some (.ref 92), some (jb_v l1), some (jb_v l2), some (jb_v (l3 + (-1))), some (jb_v (G 117 (4 * (l3 + (-1))))), some (jb_v (G 117 ((4 * (l3 + (-1))) + 1))), some (jb_v (G 117 ((4 * (l3 + (-1))) + 2))), some (jb_v (G 117 ((4 * (l3 + (-1))) + 3))), some (jb_v x7), o9] [(jb_v (x78.2))] σ78 Q
                        refine jw_goto jM230 jq230_275 ?_
                        refine jiS1 (p := 280) rfl jM230 jq230_279 ?_
                        refine jiL7 (p := 282) rfl jM230 jq230_280 ?_
                        refine jiS2 (p := 283) rfl jM230 jq230_282 ?_
                        refine jw_iconst (p := 284) rfl jM230 jq230_283 ?_
                        refine jiS9 (p := 286) rfl jM230 jq230_284 ?_
                        obtain ⟨c80, h80⟩ := jo_i h79
                        exact ih.2 r78 (s.r _ _) c80 (s.r _ _) (s.r _ _) (s.r _ _) (s.r _ _) r7 (jb_rn rfl) h80 k σ78 s78
                · have h71 := jo_p (Decidable.byContradiction c71) h70
                  refine jiL4 (p := 226) rfl jM230 jq230_224 ?_
                  refine jw_if (p := 229) rfl jM230 jq230_226 (jc_ne (s.r _ _) jb_r0) (fun c81 => ?_) (fun c81 => ?_)
                  · have h81 := jo_n c81 h71
                    refine jiL1 (p := 240) rfl jM230 jq230_239 ?_
                    refine jw_iconst (p := 241) rfl jM230 jq230_240 ?_
                    refine jw_callS [(jb_v l1), (jb_v 5)] jM230 jq230_241 rfl rfl rfl jM228 rfl rfl ?_
                    obtain ⟨x82, b83, h83⟩ := jo_b h81
                    refine jf228 hl1 (jb_rn rfl) b83 (fun σ82 s82 r82 => ?_) σ21 s21
                    show jb_w (d + 2) 230 244 [some (.ref 92), some (jb_v l1), some (jb_v l2), some (jb_v (l3 + (-1))), some (jb_v (G 117 (4 * (l3 + (-1))))), some (jb_v (G 117 ((4 * (l3 + (-1))) + 1))), some (jb_v (G 117 ((4 * (l3 + (-1))) + 2))), some (jb_v (G 117 ((4 * (l3 + (-1))) + 3))), some (jb_v x7), o9] [(jb_v (x82.2))] σ82 Q
                    refine jw_goto jM230 jq230_244 ?_
                    refine jiS1 (p := 249) rfl jM230 jq230_248 ?_
                    refine jaL0 (p := 250) rfl jM230 jq230_249 ?_
                    refine jiL8 (p := 252) rfl jM230 jq230_250 ?_
                    refine jw_callV [(jb_v x7)] jM230 jq230_252 rfl rfl (jo_92 s82.1) rfl jM149 rfl rfl ?_
                    show jb_w (d + 1) 149 0 [some (.ref 92), some (jb_v x7)] [] σ82 (jb_k (d + 2) 230 252 [some (.ref 92), some (jb_v (x82.2)), some (jb_v l2), some (jb_v (l3 + (-1))), some (jb_v (G 117 (4 * (l3 + (-1))))), some (jb_v (G 117 ((4 * (l3 + (-1))) + 1))), some (jb_v (G 117 ((4 * (l3 + (-1))) + 2))), some (jb_v (G 117 ((4 * (l3 + (-1))) + 3))), some (jb_v x7), o9] [] Q)
                    refine jaL0 (p := 1) rfl jM149 jq149_0 ?_
                    refine jw_getP (p := 4) (i := 1) (q := 93) rfl jM149 jq149_1 rfl (jo_92 s82.1) je_11_1 (jp_92_1 s82.1) ?_
                    refine jw_bipush (p := 6) rfl jM149 jq149_4 (by decide) ?_
                    refine jiL1 (p := 7) rfl jM149 jq149_6 ?_
                    refine jw_imul (p := 8) rfl jM149 jq149_7 ?_
                    refine jg_iald (p := 9) rfl jM149 jq149_8 (ja_93 s82.1) c18.1 c18.2 s82 (by decide) rfl ?_
                    refine jw_iret jM149 jq149_9 (fun z => absurd z (by decide)) ?_
                    show jb_w (d + 2) 230 255 [some (.ref 92), some (jb_v (x82.2)), some (jb_v l2), some (jb_v (l3 + (-1))), some (jb_v (G 117 (4 * (l3 + (-1))))), some (jb_v (G 117 ((4 * (l3 + (-1))) + 1))), some (jb_v (G 117 ((4 * (l3 + (-1))) + 2))), some (jb_v (G 117 ((4 * (l3 + (-1))) + 3))), some (jb_v x7), o9] [(jb_v ((x82.1) 93 (67 * x7)))] σ82 Q
                    refine jw_iconst (p := 256) rfl jM230 jq230_255 ?_
                    refine jw_ic (p := 259) rfl jM230 jq230_256 (jc_ne (s82.r _ _) (jb_rn rfl)) (fun c84 => ?_) (fun c84 => ?_)
                    · have h84 := jo_n c84 h83
                      refine jw_iconst (p := 284) rfl jM230 jq230_283 ?_
                      refine jiS9 (p := 286) rfl jM230 jq230_284 ?_
                      obtain ⟨c85, h85⟩ := jo_i h84
                      exact ih.2 r82 hl2 c85 (s.r _ _) (s.r _ _) (s.r _ _) (s.r _ _) r7 (jb_rn rfl) h85 k σ82 s82
                    · have h84 := jo_p (Decidable.byContradiction c84) h83
                      refine jiL2 (p := 260) rfl jM230 jq230_259 ?_
                      refine jw_iconst (p := 261) rfl jM230 jq230_260 ?_
                      refine jw_ic (p := 264) rfl jM230 jq230_261 (jc_eq hl2 (jb_rn rfl)) (fun c86 => ?_) (fun c86 => ?_)
                      · have h86 := jo_p c86 h84
                        refine jiL1 (p := 279) rfl jM230 jq230_278 ?_
                        refine jiS1 (p := 280) rfl jM230 jq230_279 ?_
                        refine jiL7 (p := 282) rfl jM230 jq230_280 ?_
                        refine jiS2 (p := 283) rfl jM230 jq230_282 ?_
                        refine jw_iconst (p := 284) rfl jM230 jq230_283 ?_
                        refine jiS9 (p := 286) rfl jM230 jq230_284 ?_
                        obtain ⟨c87, h87⟩ := jo_i h86
                        exact ih.2 r82 (s.r _ _) c87 (s.r _ _) (s.r _ _) (s.r _ _) (s.r _ _) r7 (jb_rn rfl) h87 k σ82 s82
                      · have h86 := jo_n c86 h84
                        refine jiL2 (p := 265) rfl jM230 jq230_264 ?_
                        refine jiL7 (p := 267) rfl jM230 jq230_265 ?_
                        refine jw_ic (p := 270) rfl jM230 jq230_267 (jc_eq hl2 (s.r _ _)) (fun c88 => ?_) (fun c88 => ?_)
                        · have h88 := jo_p c88 h86
                          refine jiL1 (p := 279) rfl jM230 jq230_278 ?_
                          refine jiS1 (p := 280) rfl jM230 jq230_279 ?_
                          refine jiL7 (p := 282) rfl jM230 jq230_280 ?_
                          refine jiS2 (p := 283) rfl jM230 jq230_282 ?_
                          refine jw_iconst (p := 284) rfl jM230 jq230_283 ?_
                          refine jiS9 (p := 286) rfl jM230 jq230_284 ?_
                          obtain ⟨c89, h89⟩ := jo_i h88
                          exact ih.2 r82 (s.r _ _) c89 (s.r _ _) (s.r _ _) (s.r _ _) (s.r _ _) r7 (jb_rn rfl) h89 k σ82 s82
                        · have h88 := jo_n c88 h86
                          refine jiL1 (p := 271) rfl jM230 jq230_270 ?_
                          refine jw_iconst (p := 272) rfl jM230 jq230_271 ?_
                          refine jw_callS [(jb_v (x82.2)), (jb_v 4)] jM230 jq230_272 rfl rfl rfl jM228 rfl rfl ?_
                          obtain ⟨x90, b91, h91⟩ := jo_b h88
                          refine jf228 r82 (jb_rn rfl) b91 (fun σ90 s90 r90 => ?_) σ82 s82
                          show jb_w (d + 2) 230 275 [some (.ref 92), some (jb_v (x82.2)), some (jb_v l2), some (jb_v (l3 + (-1))), some (jb_v (G 117 (4 * (l3 + (-1))))), some (jb_v (G 117 ((4 * (l3 + (-1))) + 1))), some (jb_v (G 117 ((4 * (l3 + (-1))) + 2))), some (jb_v (G 117 ((4 * (l3 + (-1))) + 3))), some (jb_v x7), o9] [(jb_v (x90.2))] σ90 Q
                          refine jw_goto jM230 jq230_275 ?_
                          refine jiS1 (p := 280) rfl jM230 jq230_279 ?_
                          refine jiL7 (p := 282) rfl jM230 jq230_280 ?_
                          refine jiS2 (p := 283) rfl jM230 jq230_282 ?_
                          refine jw_iconst (p := 284) rfl jM230 jq230_283 ?_
                          refine jiS9 (p := 286) rfl jM230 jq230_284 ?_
                          obtain ⟨c92, h92⟩ := jo_i h91
                          exact ih.2 r90 (s.r _ _) c92 (s.r _ _) (s.r _ _) (s.r _ _) (s.r _ _) r7 (jb_rn rfl) h92 k σ90 s90
                  · have h81 := jo_p (Decidable.byContradiction c81) h71
                    refine jaL0 (p := 230) rfl jM230 jq230_229 ?_
                    refine jiL8 (p := 232) rfl jM230 jq230_230 ?_
                    refine jw_callV [(jb_v x7)] jM230 jq230_232 rfl rfl (jo_92 s21.1) rfl jM149 rfl rfl ?_
                    show jb_w (d + 1) 149 0 [some (.ref 92), some (jb_v x7)] [] σ21 (jb_k (d + 2) 230 232 [some (.ref 92), some (jb_v l1), some (jb_v l2), some (jb_v (l3 + (-1))), some (jb_v (G 117 (4 * (l3 + (-1))))), some (jb_v (G 117 ((4 * (l3 + (-1))) + 1))), some (jb_v (G 117 ((4 * (l3 + (-1))) + 2))), some (jb_v (G 117 ((4 * (l3 + (-1))) + 3))), some (jb_v x7), o9] [] Q)
                    refine jaL0 (p := 1) rfl jM149 jq149_0 ?_
                    refine jw_getP (p := 4) (i := 1) (q := 93) rfl jM149 jq149_1 rfl (jo_92 s21.1) je_11_1 (jp_92_1 s21.1) ?_
                    refine jw_bipush (p := 6) rfl jM149 jq149_4 (by decide) ?_
                    refine jiL1 (p := 7) rfl jM149 jq149_6 ?_
                    refine jw_imul (p := 8) rfl jM149 jq149_7 ?_
                    refine jg_iald (p := 9) rfl jM149 jq149_8 (ja_93 s21.1) c18.1 c18.2 s21 (by decide) rfl ?_
                    refine jw_iret jM149 jq149_9 (fun z => absurd z (by decide)) ?_
                    show jb_w (d + 2) 230 235 [some (.ref 92), some (jb_v l1), some (jb_v l2), some (jb_v (l3 + (-1))), some (jb_v (G 117 (4 * (l3 + (-1))))), some (jb_v (G 117 ((4 * (l3 + (-1))) + 1))), some (jb_v (G 117 ((4 * (l3 + (-1))) + 2))), some (jb_v (G 117 ((4 * (l3 + (-1))) + 3))), some (jb_v x7), o9] [(jb_v ((x21.1) 93 (67 * x7)))] σ21 Q
                    refine jw_iconst (p := 236) rfl jM230 jq230_235 ?_
                    refine jw_ic (p := 239) rfl jM230 jq230_236 (jc_ne (s21.r _ _) (jb_rn rfl)) (fun c93 => ?_) (fun c93 => ?_)
                    · have h93 := jo_n c93 h81
                      refine jiL1 (p := 248) rfl jM230 jq230_247 ?_
                      refine jiS1 (p := 249) rfl jM230 jq230_248 ?_
                      refine jaL0 (p := 250) rfl jM230 jq230_249 ?_
                      refine jiL8 (p := 252) rfl jM230 jq230_250 ?_
                      refine jw_callV [(jb_v x7)] jM230 jq230_252 rfl rfl (jo_92 s21.1) rfl jM149 rfl rfl ?_
                      show jb_w (d + 1) 149 0 [some (.ref 92), some (jb_v x7)] [] σ21 (jb_k (d + 2) 230 252 [some (.ref 92), some (jb_v l1), some (jb_v l2), some (jb_v (l3 + (-1))), some (jb_v (G 117 (4 * (l3 + (-1))))), some (jb_v (G 117 ((4 * (l3 + (-1))) + 1))), some (jb_v (G 117 ((4 * (l3 + (-1))) + 2))), some (jb_v (G 117 ((4 * (l3 + (-1))) + 3))), some (jb_v x7), o9] [] Q)
                      refine jaL0 (p := 1) rfl jM149 jq149_0 ?_
                      refine jw_getP (p := 4) (i := 1) (q := 93) rfl jM149 jq149_1 rfl (jo_92 s21.1) je_11_1 (jp_92_1 s21.1) ?_
                      refine jw_bipush (p := 6) rfl jM149 jq149_4 (by decide) ?_
                      refine jiL1 (p := 7) rfl jM149 jq149_6 ?_
                      refine jw_imul (p := 8) rfl jM149 jq149_7 ?_
                      refine jg_iald (p := 9) rfl jM149 jq149_8 (ja_93 s21.1) c18.1 c18.2 s21 (by decide) rfl ?_
                      refine jw_iret jM149 jq149_9 (fun z => absurd z (by decide)) ?_
                      show jb_w (d + 2) 230 255 [some (.ref 92), some (jb_v l1), some (jb_v l2), some (jb_v (l3 + (-1))), some (jb_v (G 117 (4 * (l3 + (-1))))), some (jb_v (G 117 ((4 * (l3 + (-1))) + 1))), some (jb_v (G 117 ((4 * (l3 + (-1))) + 2))), some (jb_v (G 117 ((4 * (l3 + (-1))) + 3))), some (jb_v x7), o9] [(jb_v ((x21.1) 93 (67 * x7)))] σ21 Q
                      refine jw_iconst (p := 256) rfl jM230 jq230_255 ?_
                      refine jw_ic (p := 259) rfl jM230 jq230_256 (jc_ne (s21.r _ _) (jb_rn rfl)) (fun c94 => ?_) (fun c94 => ?_)
                      · have h94 := jo_n c94 h93
                        refine jw_iconst (p := 284) rfl jM230 jq230_283 ?_
                        refine jiS9 (p := 286) rfl jM230 jq230_284 ?_
                        obtain ⟨c95, h95⟩ := jo_i h94
                        exact ih.2 hl1 hl2 c95 (s.r _ _) (s.r _ _) (s.r _ _) (s.r _ _) r7 (jb_rn rfl) h95 k σ21 s21
                      · have h94 := jo_p (Decidable.byContradiction c94) h93
                        refine jiL2 (p := 260) rfl jM230 jq230_259 ?_
                        refine jw_iconst (p := 261) rfl jM230 jq230_260 ?_
                        refine jw_ic (p := 264) rfl jM230 jq230_261 (jc_eq hl2 (jb_rn rfl)) (fun c96 => ?_) (fun c96 => ?_)
                        · have h96 := jo_p c96 h94
                          refine jiL1 (p := 279) rfl jM230 jq230_278 ?_
                          refine jiS1 (p := 280) rfl jM230 jq230_279 ?_
                          refine jiL7 (p := 282) rfl jM230 jq230_280 ?_
                          refine jiS2 (p := 283) rfl jM230 jq230_282 ?_
                          refine jw_iconst (p := 284) rfl jM230 jq230_283 ?_
                          refine jiS9 (p := 286) rfl jM230 jq230_284 ?_
                          obtain ⟨c97, h97⟩ := jo_i h96
                          exact ih.2 hl1 (s.r _ _) c97 (s.r _ _) (s.r _ _) (s.r _ _) (s.r _ _) r7 (jb_rn rfl) h97 k σ21 s21
                        · have h96 := jo_n c96 h94
                          refine jiL2 (p := 265) rfl jM230 jq230_264 ?_
                          refine jiL7 (p := 267) rfl jM230 jq230_265 ?_
                          refine jw_ic (p := 270) rfl jM230 jq230_267 (jc_eq hl2 (s.r _ _)) (fun c98 => ?_) (fun c98 => ?_)
                          · have h98 := jo_p c98 h96
                            refine jiL1 (p := 279) rfl jM230 jq230_278 ?_
                            refine jiS1 (p := 280) rfl jM230 jq230_279 ?_
                            refine jiL7 (p := 282) rfl jM230 jq230_280 ?_
                            refine jiS2 (p := 283) rfl jM230 jq230_282 ?_
                            refine jw_iconst (p := 284) rfl jM230 jq230_283 ?_
                            refine jiS9 (p := 286) rfl jM230 jq230_284 ?_
                            obtain ⟨c99, h99⟩ := jo_i h98
                            exact ih.2 hl1 (s.r _ _) c99 (s.r _ _) (s.r _ _) (s.r _ _) (s.r _ _) r7 (jb_rn rfl) h99 k σ21 s21
                          · have h98 := jo_n c98 h96
                            refine jiL1 (p := 271) rfl jM230 jq230_270 ?_
                            refine jw_iconst (p := 272) rfl jM230 jq230_271 ?_
                            refine jw_callS [(jb_v l1), (jb_v 4)] jM230 jq230_272 rfl rfl rfl jM228 rfl rfl ?_
                            obtain ⟨x100, b101, h101⟩ := jo_b h98
                            refine jf228 hl1 (jb_rn rfl) b101 (fun σ100 s100 r100 => ?_) σ21 s21
                            show jb_w (d + 2) 230 275 [some (.ref 92), some (jb_v l1), some (jb_v l2), some (jb_v (l3 + (-1))), some (jb_v (G 117 (4 * (l3 + (-1))))), some (jb_v (G 117 ((4 * (l3 + (-1))) + 1))), some (jb_v (G 117 ((4 * (l3 + (-1))) + 2))), some (jb_v (G 117 ((4 * (l3 + (-1))) + 3))), some (jb_v x7), o9] [(jb_v (x100.2))] σ100 Q
                            refine jw_goto jM230 jq230_275 ?_
                            refine jiS1 (p := 280) rfl jM230 jq230_279 ?_
                            refine jiL7 (p := 282) rfl jM230 jq230_280 ?_
                            refine jiS2 (p := 283) rfl jM230 jq230_282 ?_
                            refine jw_iconst (p := 284) rfl jM230 jq230_283 ?_
                            refine jiS9 (p := 286) rfl jM230 jq230_284 ?_
                            obtain ⟨c102, h102⟩ := jo_i h101
                            exact ih.2 r100 (s.r _ _) c102 (s.r _ _) (s.r _ _) (s.r _ _) (s.r _ _) r7 (jb_rn rfl) h102 k σ100 s100
                    · have h93 := jo_p (Decidable.byContradiction c93) h81
                      refine jiL1 (p := 240) rfl jM230 jq230_239 ?_
                      refine jw_iconst (p := 241) rfl jM230 jq230_240 ?_
                      refine jw_callS [(jb_v l1), (jb_v 5)] jM230 jq230_241 rfl rfl rfl jM228 rfl rfl ?_
                      obtain ⟨x103, b104, h104⟩ := jo_b h93
                      refine jf228 hl1 (jb_rn rfl) b104 (fun σ103 s103 r103 => ?_) σ21 s21
                      show jb_w (d + 2) 230 244 [some (.ref 92), some (jb_v l1), some (jb_v l2), some (jb_v (l3 + (-1))), some (jb_v (G 117 (4 * (l3 + (-1))))), some (jb_v (G 117 ((4 * (l3 + (-1))) + 1))), some (jb_v (G 117 ((4 * (l3 + (-1))) + 2))), some (jb_v (G 117 ((4 * (l3 + (-1))) + 3))), some (jb_v x7), o9] [(jb_v (x103.2))] σ103 Q
                      refine jw_goto jM230 jq230_244 ?_
                      refine jiS1 (p := 249) rfl jM230 jq230_248 ?_
                      refine jaL0 (p := 250) rfl jM230 jq230_249 ?_
                      refine jiL8 (p := 252) rfl jM230 jq230_250 ?_
                      refine jw_callV [(jb_v x7)] jM230 jq230_252 rfl rfl (jo_92 s103.1) rfl jM149 rfl rfl ?_
                      show jb_w (d + 1) 149 0 [some (.ref 92), some (jb_v x7)] [] σ103 (jb_k (d + 2) 230 252 [some (.ref 92), some (jb_v (x103.2)), some (jb_v l2), some (jb_v (l3 + (-1))), some (jb_v (G 117 (4 * (l3 + (-1))))), some (jb_v (G 117 ((4 * (l3 + (-1))) + 1))), some (jb_v (G 117 ((4 * (l3 + (-1))) + 2))), some (jb_v (G 117 ((4 * (l3 + (-1))) + 3))), some (jb_v x7), o9] [] Q)
                      refine jaL0 (p := 1) rfl jM149 jq149_0 ?_
                      refine jw_getP (p := 4) (i := 1) (q := 93) rfl jM149 jq149_1 rfl (jo_92 s103.1) je_11_1 (jp_92_1 s103.1) ?_
                      refine jw_bipush (p := 6) rfl jM149 jq149_4 (by decide) ?_
                      refine jiL1 (p := 7) rfl jM149 jq149_6 ?_
                      refine jw_imul (p := 8) rfl jM149 jq149_7 ?_
                      refine jg_iald (p := 9) rfl jM149 jq149_8 (ja_93 s103.1) c18.1 c18.2 s103 (by decide) rfl ?_
                      refine jw_iret jM149 jq149_9 (fun z => absurd z (by decide)) ?_
                      show jb_w (d + 2) 230 255 [some (.ref 92), some (jb_v (x103.2)), some (jb_v l2), some (jb_v (l3 + (-1))), some (jb_v (G 117 (4 * (l3 + (-1))))), some (jb_v (G 117 ((4 * (l3 + (-1))) + 1))), some (jb_v (G 117 ((4 * (l3 + (-1))) + 2))), some (jb_v (G 117 ((4 * (l3 + (-1))) + 3))), some (jb_v x7), o9] [(jb_v ((x103.1) 93 (67 * x7)))] σ103 Q
                      refine jw_iconst (p := 256) rfl jM230 jq230_255 ?_
                      refine jw_ic (p := 259) rfl jM230 jq230_256 (jc_ne (s103.r _ _) (jb_rn rfl)) (fun c105 => ?_) (fun c105 => ?_)
                      · have h105 := jo_n c105 h104
                        refine jw_iconst (p := 284) rfl jM230 jq230_283 ?_
                        refine jiS9 (p := 286) rfl jM230 jq230_284 ?_
                        obtain ⟨c106, h106⟩ := jo_i h105
                        exact ih.2 r103 hl2 c106 (s.r _ _) (s.r _ _) (s.r _ _) (s.r _ _) r7 (jb_rn rfl) h106 k σ103 s103
                      · have h105 := jo_p (Decidable.byContradiction c105) h104
                        refine jiL2 (p := 260) rfl jM230 jq230_259 ?_
                        refine jw_iconst (p := 261) rfl jM230 jq230_260 ?_
                        refine jw_ic (p := 264) rfl jM230 jq230_261 (jc_eq hl2 (jb_rn rfl)) (fun c107 => ?_) (fun c107 => ?_)
                        · have h107 := jo_p c107 h105
                          refine jiL1 (p := 279) rfl jM230 jq230_278 ?_
                          refine jiS1 (p := 280) rfl jM230 jq230_279 ?_
                          refine jiL7 (p := 282) rfl jM230 jq230_280 ?_
                          refine jiS2 (p := 283) rfl jM230 jq230_282 ?_
                          refine jw_iconst (p := 284) rfl jM230 jq230_283 ?_
                          refine jiS9 (p := 286) rfl jM230 jq230_284 ?_
                          obtain ⟨c108, h108⟩ := jo_i h107
                          exact ih.2 r103 (s.r _ _) c108 (s.r _ _) (s.r _ _) (s.r _ _) (s.r _ _) r7 (jb_rn rfl) h108 k σ103 s103
                        · have h107 := jo_n c107 h105
                          refine jiL2 (p := 265) rfl jM230 jq230_264 ?_
                          refine jiL7 (p := 267) rfl jM230 jq230_265 ?_
                          refine jw_ic (p := 270) rfl jM230 jq230_267 (jc_eq hl2 (s.r _ _)) (fun c109 => ?_) (fun c109 => ?_)
                          · have h109 := jo_p c109 h107
                            refine jiL1 (p := 279) rfl jM230 jq230_278 ?_
                            refine jiS1 (p := 280) rfl jM230 jq230_279 ?_
                            refine jiL7 (p := 282) rfl jM230 jq230_280 ?_
                            refine jiS2 (p := 283) rfl jM230 jq230_282 ?_
                            refine jw_iconst (p := 284) rfl jM230 jq230_283 ?_
                            refine jiS9 (p := 286) rfl jM230 jq230_284 ?_
                            obtain ⟨c110, h110⟩ := jo_i h109
                            exact ih.2 r103 (s.r _ _) c110 (s.r _ _) (s.r _ _) (s.r _ _) (s.r _ _) r7 (jb_rn rfl) h110 k σ103 s103
                          · have h109 := jo_n c109 h107
                            refine jiL1 (p := 271) rfl jM230 jq230_270 ?_
                            refine jw_iconst (p := 272) rfl jM230 jq230_271 ?_
                            refine jw_callS [(jb_v (x103.2)), (jb_v 4)] jM230 jq230_272 rfl rfl rfl jM228 rfl rfl ?_
                            obtain ⟨x111, b112, h112⟩ := jo_b h109
                            refine jf228 r103 (jb_rn rfl) b112 (fun σ111 s111 r111 => ?_) σ103 s103
                            show jb_w (d + 2) 230 275 [some (.ref 92), some (jb_v (x103.2)), some (jb_v l2), some (jb_v (l3 + (-1))), some (jb_v (G 117 (4 * (l3 + (-1))))), some (jb_v (G 117 ((4 * (l3 + (-1))) + 1))), some (jb_v (G 117 ((4 * (l3 + (-1))) + 2))), some (jb_v (G 117 ((4 * (l3 + (-1))) + 3))), some (jb_v x7), o9] [(jb_v (x111.2))] σ111 Q
                            refine jw_goto jM230 jq230_275 ?_
                            refine jiS1 (p := 280) rfl jM230 jq230_279 ?_
                            refine jiL7 (p := 282) rfl jM230 jq230_280 ?_
                            refine jiS2 (p := 283) rfl jM230 jq230_282 ?_
                            refine jw_iconst (p := 284) rfl jM230 jq230_283 ?_
                            refine jiS9 (p := 286) rfl jM230 jq230_284 ?_
                            obtain ⟨c113, h113⟩ := jo_i h112
                            exact ih.2 r111 (s.r _ _) c113 (s.r _ _) (s.r _ _) (s.r _ _) (s.r _ _) r7 (jb_rn rfl) h113 k σ111 s111
            · have h19 := jo_p (Decidable.byContradiction c19) h18
              refine jiL1 (p := 168) rfl jM230 jq230_167 ?_
              refine jw_iconst (p := 169) rfl jM230 jq230_168 ?_
              refine jw_callS [(jb_v l1), (jb_v 2)] jM230 jq230_169 rfl rfl rfl jM228 rfl rfl ?_
              obtain ⟨x114, b115, h115⟩ := jo_b h19
              refine jf228 hl1 (jb_rn rfl) b115 (fun σ114 s114 r114 => ?_) σ9 s9
              show jb_w (d + 2) 230 172 [some (.ref 92), some (jb_v l1), some (jb_v l2), some (jb_v (l3 + (-1))), some (jb_v (G 117 (4 * (l3 + (-1))))), some (jb_v (G 117 ((4 * (l3 + (-1))) + 1))), some (jb_v (G 117 ((4 * (l3 + (-1))) + 2))), some (jb_v (G 117 ((4 * (l3 + (-1))) + 3))), some (jb_v x7), o9] [(jb_v (x114.2))] σ114 Q
              refine jiS1 (p := 173) rfl jM230 jq230_172 ?_
              refine jaL0 (p := 174) rfl jM230 jq230_173 ?_
              refine jw_getP (p := 177) (i := 35) (q := 118) rfl jM230 jq230_174 rfl (jo_92 s114.1) je_11_35 (jp_92_35 s114.1) ?_
              refine jiL4 (p := 179) rfl jM230 jq230_177 ?_
              refine jw_iconst (p := 180) rfl jM230 jq230_179 ?_
              refine jg_bast (p := 181) rfl jM230 jq230_180 (ja_118 s114.1) c12.1 c12.2 (Or.inr rfl) s114 (by decide) ?_
              intro σ116 s116
              refine jw_goto jM230 jq230_181 ?_
              refine jw_goto jM230 jq230_412 ?_
              obtain ⟨c117, h117⟩ := jo_i h115
              exact ih.1 r114 hl2 c117 (s.r _ _) h117 k σ116 s116
        · have h11 := jo_n c11 h10
          refine jw_iconst (p := 136) rfl jM230 jq230_135 ?_
          refine jiS1 (p := 137) rfl jM230 jq230_136 ?_
          refine jaL0 (p := 138) rfl jM230 jq230_137 ?_
          refine jw_getP (p := 141) (i := 35) (q := 118) rfl jM230 jq230_138 rfl (jo_92 s9.1) je_11_35 (jp_92_35 s9.1) ?_
          refine jiL4 (p := 143) rfl jM230 jq230_141 ?_
          refine jw_iconst (p := 144) rfl jM230 jq230_143 ?_
          obtain ⟨c118, h118⟩ := jo_i h11
          refine jg_bast (p := 145) rfl jM230 jq230_144 (ja_118 s9.1) c118.1 c118.2 (Or.inr rfl) s9 (by decide) ?_
          intro σ119 s119
          refine jw_goto jM230 jq230_145 ?_
          refine jw_goto jM230 jq230_412 ?_
          obtain ⟨c120, h120⟩ := jo_i h118
          exact ih.1 (jb_rn rfl) hl2 c120 (s.r _ _) h120 k σ119 s119
    · intro G l1 l2 l3 l4 l5 l6 l7 l8 l9 hl1 hl2 hl3 hl4 hl5 hl6 hl7 hl8 hl9 r h k σ s
      unfold fo230_s at h
      have h := jo_p rfl (jo_n (by decide) h)
      refine jaL0 (p := 287) rfl jM230 jq230_286 ?_
      refine jiL8 (p := 289) rfl jM230 jq230_287 ?_
      refine jw_callV [(jb_v l8)] jM230 jq230_289 rfl rfl (jo_92 s.1) rfl jM149 rfl rfl ?_
      show jb_w (d + 1) 149 0 [some (.ref 92), some (jb_v l8)] [] σ (jb_k (d + 2) 230 289 [some (.ref 92), some (jb_v l1), some (jb_v l2), some (jb_v l3), some (jb_v l4), some (jb_v l5), some (jb_v l6), some (jb_v l7), some (jb_v l8), some (jb_v l9)] [] Q)
      refine jaL0 (p := 1) rfl jM149 jq149_0 ?_
      refine jw_getP (p := 4) (i := 1) (q := 93) rfl jM149 jq149_1 rfl (jo_92 s.1) je_11_1 (jp_92_1 s.1) ?_
      refine jw_bipush (p := 6) rfl jM149 jq149_4 (by decide) ?_
      refine jiL1 (p := 7) rfl jM149 jq149_6 ?_
      refine jw_imul (p := 8) rfl jM149 jq149_7 ?_
      obtain ⟨c121, h121⟩ := jo_i h
      refine jg_iald (p := 9) rfl jM149 jq149_8 (ja_93 s.1) c121.1 c121.2 s (by decide) rfl ?_
      refine jw_iret jM149 jq149_9 (fun z => absurd z (by decide)) ?_
      show jb_w (d + 2) 230 292 [some (.ref 92), some (jb_v l1), some (jb_v l2), some (jb_v l3), some (jb_v l4), some (jb_v l5), some (jb_v l6), some (jb_v l7), some (jb_v l8), some (jb_v l9)] [(jb_v (G 93 (67 * l8)))] σ Q
      refine jw_iconst (p := 293) rfl jM230 jq230_292 ?_
      refine jw_ic (p := 296) rfl jM230 jq230_293 (jc_ne (s.r _ _) (jb_rn rfl)) (fun c122 => ?_) (fun c122 => ?_)
      · have h122 := jo_n c122 h121
        refine jw_goto jM230 jq230_412 ?_
        exact ih.1 hl1 hl2 hl3 hl4 h122 k σ s
      · have h122 := jo_p (Decidable.byContradiction c122) h121
        refine jiL9 (p := 298) rfl jM230 jq230_296 ?_
        refine jaL0 (p := 299) rfl jM230 jq230_298 ?_
        refine jiL8 (p := 301) rfl jM230 jq230_299 ?_
        refine jw_callV [(jb_v l8)] jM230 jq230_301 rfl rfl (jo_92 s.1) rfl jM150 rfl rfl ?_
        show jb_w (d + 1) 150 0 [some (.ref 92), some (jb_v l8)] [] σ (jb_k (d + 2) 230 301 [some (.ref 92), some (jb_v l1), some (jb_v l2), some (jb_v l3), some (jb_v l4), some (jb_v l5), some (jb_v l6), some (jb_v l7), some (jb_v l8), some (jb_v l9)] [(jb_v l9)] Q)
        refine jaL0 (p := 1) rfl jM150 jq150_0 ?_
        refine jw_getP (p := 4) (i := 1) (q := 93) rfl jM150 jq150_1 rfl (jo_92 s.1) je_11_1 (jp_92_1 s.1) ?_
        refine jw_bipush (p := 6) rfl jM150 jq150_4 (by decide) ?_
        refine jiL1 (p := 7) rfl jM150 jq150_6 ?_
        refine jw_imul (p := 8) rfl jM150 jq150_7 ?_
        refine jw_iconst (p := 9) rfl jM150 jq150_8 ?_
        refine jw_iadd (p := 10) rfl jM150 jq150_9 ?_
        obtain ⟨c123, h123⟩ := jo_i h122
        refine jg_iald (p := 11) rfl jM150 jq150_10 (ja_93 s.1) c123.1 c123.2 s (by decide) rfl ?_
        refine jw_iret jM150 jq150_11 (fun z => absurd z (by decide)) ?_
        show jb_w (d + 2) 230 304 [some (.ref 92), some (jb_v l1), some (jb_v l2), some (jb_v l3), some (jb_v l4), some (jb_v l5), some (jb_v l6), some (jb_v l7), some (jb_v l8), some (jb_v l9)] [(jb_v (G 93 ((67 * l8) + 2))), (jb_v l9)] σ Q
        refine jw_ic (p := 307) rfl jM230 jq230_304 (jc_ge hl9 (s.r _ _)) (fun c124 => ?_) (fun c124 => ?_)
        · have h124 := jo_p c124 h123
          refine jw_goto jM230 jq230_412 ?_
          exact ih.1 hl1 hl2 hl3 hl4 h124 k σ s
        · have h124 := jo_n c124 h123
          refine jaL0 (p := 308) rfl jM230 jq230_307 ?_
          refine jw_getP (p := 311) (i := 34) (q := 117) rfl jM230 jq230_308 rfl (jo_92 s.1) je_11_34 (jp_92_34 s.1) ?_
          refine jw_iconst (p := 312) rfl jM230 jq230_311 ?_
          refine jiL3 (p := 313) rfl jM230 jq230_312 ?_
          refine jw_imul (p := 314) rfl jM230 jq230_313 ?_
          refine jaL0 (p := 315) rfl jM230 jq230_314 ?_
          refine jiL8 (p := 317) rfl jM230 jq230_315 ?_
          refine jiL9 (p := 319) rfl jM230 jq230_317 ?_
          refine jw_callV [(jb_v l8), (jb_v l9)] jM230 jq230_319 rfl rfl (jo_92 s.1) rfl jM152 rfl rfl ?_
          show jb_w (d + 1) 152 0 [some (.ref 92), some (jb_v l8), some (jb_v l9)] [] σ (jb_k (d + 2) 230 319 [some (.ref 92), some (jb_v l1), some (jb_v l2), some (jb_v l3), some (jb_v l4), some (jb_v l5), some (jb_v l6), some (jb_v l7), some (jb_v l8), some (jb_v l9)] [(jb_v (4 * l3)), (.ref 117)] Q)
          refine jaL0 (p := 1) rfl jM152 jq152_0 ?_
          refine jw_getP (p := 4) (i := 1) (q := 93) rfl jM152 jq152_1 rfl (jo_92 s.1) je_11_1 (jp_92_1 s.1) ?_
          refine jw_bipush (p := 6) rfl jM152 jq152_4 (by decide) ?_
          refine jiL1 (p := 7) rfl jM152 jq152_6 ?_
          refine jw_imul (p := 8) rfl jM152 jq152_7 ?_
          refine jw_iconst (p := 9) rfl jM152 jq152_8 ?_
          refine jw_iadd (p := 10) rfl jM152 jq152_9 ?_
          refine jw_iconst (p := 11) rfl jM152 jq152_10 ?_
          refine jiL2 (p := 12) rfl jM152 jq152_11 ?_
          refine jw_imul (p := 13) rfl jM152 jq152_12 ?_
          refine jw_iadd (p := 14) rfl jM152 jq152_13 ?_
          obtain ⟨c125, h125⟩ := jo_i h124
          refine jg_iald (p := 15) rfl jM152 jq152_14 (ja_93 s.1) c125.1 c125.2 s (by decide) rfl ?_
          refine jw_iret jM152 jq152_15 (fun z => absurd z (by decide)) ?_
          show jb_w (d + 2) 230 322 [some (.ref 92), some (jb_v l1), some (jb_v l2), some (jb_v l3), some (jb_v l4), some (jb_v l5), some (jb_v l6), some (jb_v l7), some (jb_v l8), some (jb_v l9)] [(jb_v (G 93 (((67 * l8) + 4) + (2 * l9)))), (jb_v (4 * l3)), (.ref 117)] σ Q
          obtain ⟨c126, h126⟩ := jo_i h125
          refine jg_iast (p := 323) rfl jM230 jq230_322 (ja_117 s.1) c126.1 c126.2 s (by decide) (s.r _ _) ?_
          intro σ127 s127
          refine jaL0 (p := 324) rfl jM230 jq230_323 ?_
          refine jw_getP (p := 327) (i := 34) (q := 117) rfl jM230 jq230_324 rfl (jo_92 s127.1) je_11_34 (jp_92_34 s127.1) ?_
          refine jw_iconst (p := 328) rfl jM230 jq230_327 ?_
          refine jiL3 (p := 329) rfl jM230 jq230_328 ?_
          refine jw_imul (p := 330) rfl jM230 jq230_329 ?_
          refine jw_iconst (p := 331) rfl jM230 jq230_330 ?_
          refine jw_iadd (p := 332) rfl jM230 jq230_331 ?_
          refine jiL9 (p := 334) rfl jM230 jq230_332 ?_
          refine jw_if (p := 337) rfl jM230 jq230_334 (jc_ne hl9 jb_r0) (fun c128 => ?_) (fun c128 => ?_)
          · have h128 := jo_n c128 h126
            refine jaL0 (p := 343) rfl jM230 jq230_342 ?_
            refine jiL8 (p := 345) rfl jM230 jq230_343 ?_
            refine jiL9 (p := 347) rfl jM230 jq230_345 ?_
            refine jw_callV [(jb_v l8), (jb_v l9)] jM230 jq230_347 rfl rfl (jo_92 s127.1) rfl jM151 rfl rfl ?_
            show jb_w (d + 1) 151 0 [some (.ref 92), some (jb_v l8), some (jb_v l9)] [] σ127 (jb_k (d + 2) 230 347 [some (.ref 92), some (jb_v l1), some (jb_v l2), some (jb_v l3), some (jb_v l4), some (jb_v l5), some (jb_v l6), some (jb_v l7), some (jb_v l8), some (jb_v l9)] [(jb_v ((4 * l3) + 1)), (.ref 117)] Q)
            refine jaL0 (p := 1) rfl jM151 jq151_0 ?_
            refine jw_getP (p := 4) (i := 1) (q := 93) rfl jM151 jq151_1 rfl (jo_92 s127.1) je_11_1 (jp_92_1 s127.1) ?_
            refine jw_bipush (p := 6) rfl jM151 jq151_4 (by decide) ?_
            refine jiL1 (p := 7) rfl jM151 jq151_6 ?_
            refine jw_imul (p := 8) rfl jM151 jq151_7 ?_
            refine jw_iconst (p := 9) rfl jM151 jq151_8 ?_
            refine jw_iadd (p := 10) rfl jM151 jq151_9 ?_
            refine jw_iconst (p := 11) rfl jM151 jq151_10 ?_
            refine jiL2 (p := 12) rfl jM151 jq151_11 ?_
            refine jw_imul (p := 13) rfl jM151 jq151_12 ?_
            refine jw_iadd (p := 14) rfl jM151 jq151_13 ?_
            obtain ⟨c129, h129⟩ := jo_i h128
            refine jg_iald (p := 15) rfl jM151 jq151_14 (ja_93 s127.1) c129.1 c129.2 s127 (by decide) (jg_uN (by decide)) ?_
            refine jw_iret jM151 jq151_15 (fun z => absurd z (by decide)) ?_
            show jb_w (d + 2) 230 350 [some (.ref 92), some (jb_v l1), some (jb_v l2), some (jb_v l3), some (jb_v l4), some (jb_v l5), some (jb_v l6), some (jb_v l7), some (jb_v l8), some (jb_v l9)] [(jb_v (G 93 (((67 * l8) + 3) + (2 * l9)))), (jb_v ((4 * l3) + 1)), (.ref 117)] σ127 Q
            obtain ⟨c130, h130⟩ := jo_i h129
            refine jg_iast (p := 351) rfl jM230 jq230_350 (ja_117 s127.1) c130.1 c130.2 s127 (by decide) (s.r _ _) ?_
            intro σ131 s131
            refine jaL0 (p := 352) rfl jM230 jq230_351 ?_
            refine jw_getP (p := 355) (i := 34) (q := 117) rfl jM230 jq230_352 rfl (jo_92 s131.1) je_11_34 (jp_92_34 s131.1) ?_
            refine jw_iconst (p := 356) rfl jM230 jq230_355 ?_
            refine jiL3 (p := 357) rfl jM230 jq230_356 ?_
            refine jw_imul (p := 358) rfl jM230 jq230_357 ?_
            refine jw_iconst (p := 359) rfl jM230 jq230_358 ?_
            refine jw_iadd (p := 360) rfl jM230 jq230_359 ?_
            refine jiL9 (p := 362) rfl jM230 jq230_360 ?_
            refine jw_iconst (p := 363) rfl jM230 jq230_362 ?_
            refine jw_iadd (p := 364) rfl jM230 jq230_363 ?_
            refine jaL0 (p := 365) rfl jM230 jq230_364 ?_
            refine jiL8 (p := 367) rfl jM230 jq230_365 ?_
            refine jw_callV [(jb_v l8)] jM230 jq230_367 rfl rfl (jo_92 s131.1) rfl jM150 rfl rfl ?_
            show jb_w (d + 1) 150 0 [some (.ref 92), some (jb_v l8)] [] σ131 (jb_k (d + 2) 230 367 [some (.ref 92), some (jb_v l1), some (jb_v l2), some (jb_v l3), some (jb_v l4), some (jb_v l5), some (jb_v l6), some (jb_v l7), some (jb_v l8), some (jb_v l9)] [(jb_v (l9 + 1)), (jb_v ((4 * l3) + 2)), (.ref 117)] Q)
            refine jaL0 (p := 1) rfl jM150 jq150_0 ?_
            refine jw_getP (p := 4) (i := 1) (q := 93) rfl jM150 jq150_1 rfl (jo_92 s131.1) je_11_1 (jp_92_1 s131.1) ?_
            refine jw_bipush (p := 6) rfl jM150 jq150_4 (by decide) ?_
            refine jiL1 (p := 7) rfl jM150 jq150_6 ?_
            refine jw_imul (p := 8) rfl jM150 jq150_7 ?_
            refine jw_iconst (p := 9) rfl jM150 jq150_8 ?_
            refine jw_iadd (p := 10) rfl jM150 jq150_9 ?_
            refine jg_iald (p := 11) rfl jM150 jq150_10 (ja_93 s131.1) c123.1 c123.2 s131 (by decide) ((jg_uN (by decide)).trans (jg_uN (by decide))) ?_
            refine jw_iret jM150 jq150_11 (fun z => absurd z (by decide)) ?_
            show jb_w (d + 2) 230 370 [some (.ref 92), some (jb_v l1), some (jb_v l2), some (jb_v l3), some (jb_v l4), some (jb_v l5), some (jb_v l6), some (jb_v l7), some (jb_v l8), some (jb_v l9)] [(jb_v (G 93 ((67 * l8) + 2))), (jb_v (l9 + 1)), (jb_v ((4 * l3) + 2)), (.ref 117)] σ131 Q
            obtain ⟨c132, h132⟩ := jo_i h130
            refine jw_ic (p := 373) rfl jM230 jq230_370 (jc_ge c132 (s.r _ _)) (fun c133 => ?_) (fun c133 => ?_)
            · have h133 := jo_p c133 h132
              refine jiL6 (p := 388) rfl jM230 jq230_386 ?_
              obtain ⟨c134, h134⟩ := jo_i h133
              refine jg_iast (p := 389) rfl jM230 jq230_388 (ja_117 s131.1) c134.1 c134.2 s131 (by decide) hl6 ?_
              intro σ135 s135
              refine jaL0 (p := 390) rfl jM230 jq230_389 ?_
              refine jw_getP (p := 393) (i := 34) (q := 117) rfl jM230 jq230_390 rfl (jo_92 s135.1) je_11_34 (jp_92_34 s135.1) ?_
              refine jw_iconst (p := 394) rfl jM230 jq230_393 ?_
              refine jiL3 (p := 395) rfl jM230 jq230_394 ?_
              refine jw_imul (p := 396) rfl jM230 jq230_395 ?_
              refine jw_iconst (p := 397) rfl jM230 jq230_396 ?_
              refine jw_iadd (p := 398) rfl jM230 jq230_397 ?_
              refine jiL7 (p := 400) rfl jM230 jq230_398 ?_
              refine jw_iconst (p := 401) rfl jM230 jq230_400 ?_
              refine jw_iadd (p := 402) rfl jM230 jq230_401 ?_
              obtain ⟨c136, h136⟩ := jo_i h134
              obtain ⟨c137, h137⟩ := jo_i h136
              refine jg_iast (p := 403) rfl jM230 jq230_402 (ja_117 s135.1) c136.1 c136.2 s135 (by decide) c137 ?_
              intro σ138 s138
              refine jiI3 (p := 406) rfl jM230 jq230_403 ?_
              refine jiI9 (p := 409) rfl jM230 jq230_406 ?_
              refine jw_goto jM230 jq230_409 ?_
              obtain ⟨c139, h139⟩ := jo_i h137
              exact ih.2 hl1 hl2 c139 hl4 hl5 hl6 hl7 hl8 c132 h139 k σ138 s138
            · have h133 := jo_n c133 h132
              refine jaL0 (p := 374) rfl jM230 jq230_373 ?_
              refine jiL8 (p := 376) rfl jM230 jq230_374 ?_
              refine jiL9 (p := 378) rfl jM230 jq230_376 ?_
              refine jw_iconst (p := 379) rfl jM230 jq230_378 ?_
              refine jw_iadd (p := 380) rfl jM230 jq230_379 ?_
              refine jw_callV [(jb_v l8), (jb_v (l9 + 1))] jM230 jq230_380 rfl rfl (jo_92 s131.1) rfl jM151 rfl rfl ?_
              show jb_w (d + 1) 151 0 [some (.ref 92), some (jb_v l8), some (jb_v (l9 + 1))] [] σ131 (jb_k (d + 2) 230 380 [some (.ref 92), some (jb_v l1), some (jb_v l2), some (jb_v l3), some (jb_v l4), some (jb_v l5), some (jb_v l6), some (jb_v l7), some (jb_v l8), some (jb_v l9)] [(jb_v ((4 * l3) + 2)), (.ref 117)] Q)
              refine jaL0 (p := 1) rfl jM151 jq151_0 ?_
              refine jw_getP (p := 4) (i := 1) (q := 93) rfl jM151 jq151_1 rfl (jo_92 s131.1) je_11_1 (jp_92_1 s131.1) ?_
              refine jw_bipush (p := 6) rfl jM151 jq151_4 (by decide) ?_
              refine jiL1 (p := 7) rfl jM151 jq151_6 ?_
              refine jw_imul (p := 8) rfl jM151 jq151_7 ?_
              refine jw_iconst (p := 9) rfl jM151 jq151_8 ?_
              refine jw_iadd (p := 10) rfl jM151 jq151_9 ?_
              refine jw_iconst (p := 11) rfl jM151 jq151_10 ?_
              refine jiL2 (p := 12) rfl jM151 jq151_11 ?_
              refine jw_imul (p := 13) rfl jM151 jq151_12 ?_
              refine jw_iadd (p := 14) rfl jM151 jq151_13 ?_
              obtain ⟨c140, h140⟩ := jo_i h133
              refine jg_iald (p := 15) rfl jM151 jq151_14 (ja_93 s131.1) c140.1 c140.2 s131 (by decide) ((jg_uN (by decide)).trans (jg_uN (by decide))) ?_
              refine jw_iret jM151 jq151_15 (fun z => absurd z (by decide)) ?_
              show jb_w (d + 2) 230 383 [some (.ref 92), some (jb_v l1), some (jb_v l2), some (jb_v l3), some (jb_v l4), some (jb_v l5), some (jb_v l6), some (jb_v l7), some (jb_v l8), some (jb_v l9)] [(jb_v (G 93 (((67 * l8) + 3) + (2 * (l9 + 1))))), (jb_v ((4 * l3) + 2)), (.ref 117)] σ131 Q
              refine jw_goto jM230 jq230_383 ?_
              obtain ⟨c141, h141⟩ := jo_i h140
              refine jg_iast (p := 389) rfl jM230 jq230_388 (ja_117 s131.1) c141.1 c141.2 s131 (by decide) (s.r _ _) ?_
              intro σ142 s142
              refine jaL0 (p := 390) rfl jM230 jq230_389 ?_
              refine jw_getP (p := 393) (i := 34) (q := 117) rfl jM230 jq230_390 rfl (jo_92 s142.1) je_11_34 (jp_92_34 s142.1) ?_
              refine jw_iconst (p := 394) rfl jM230 jq230_393 ?_
              refine jiL3 (p := 395) rfl jM230 jq230_394 ?_
              refine jw_imul (p := 396) rfl jM230 jq230_395 ?_
              refine jw_iconst (p := 397) rfl jM230 jq230_396 ?_
              refine jw_iadd (p := 398) rfl jM230 jq230_397 ?_
              refine jiL7 (p := 400) rfl jM230 jq230_398 ?_
              refine jw_iconst (p := 401) rfl jM230 jq230_400 ?_
              refine jw_iadd (p := 402) rfl jM230 jq230_401 ?_
              obtain ⟨c143, h143⟩ := jo_i h141
              obtain ⟨c144, h144⟩ := jo_i h143
              refine jg_iast (p := 403) rfl jM230 jq230_402 (ja_117 s142.1) c143.1 c143.2 s142 (by decide) c144 ?_
              intro σ145 s145
              refine jiI3 (p := 406) rfl jM230 jq230_403 ?_
              refine jiI9 (p := 409) rfl jM230 jq230_406 ?_
              refine jw_goto jM230 jq230_409 ?_
              obtain ⟨c146, h146⟩ := jo_i h144
              exact ih.2 hl1 hl2 c146 hl4 hl5 hl6 hl7 hl8 c132 h146 k σ145 s145
          · have h128 := jo_p (Decidable.byContradiction c128) h126
            refine jiL5 (p := 339) rfl jM230 jq230_337 ?_
            refine jw_goto jM230 jq230_339 ?_
            obtain ⟨c147, h147⟩ := jo_i h128
            refine jg_iast (p := 351) rfl jM230 jq230_350 (ja_117 s127.1) c147.1 c147.2 s127 (by decide) hl5 ?_
            intro σ148 s148
            refine jaL0 (p := 352) rfl jM230 jq230_351 ?_
            refine jw_getP (p := 355) (i := 34) (q := 117) rfl jM230 jq230_352 rfl (jo_92 s148.1) je_11_34 (jp_92_34 s148.1) ?_
            refine jw_iconst (p := 356) rfl jM230 jq230_355 ?_
            refine jiL3 (p := 357) rfl jM230 jq230_356 ?_
            refine jw_imul (p := 358) rfl jM230 jq230_357 ?_
            refine jw_iconst (p := 359) rfl jM230 jq230_358 ?_
            refine jw_iadd (p := 360) rfl jM230 jq230_359 ?_
            refine jiL9 (p := 362) rfl jM230 jq230_360 ?_
            refine jw_iconst (p := 363) rfl jM230 jq230_362 ?_
            refine jw_iadd (p := 364) rfl jM230 jq230_363 ?_
            refine jaL0 (p := 365) rfl jM230 jq230_364 ?_
            refine jiL8 (p := 367) rfl jM230 jq230_365 ?_
            refine jw_callV [(jb_v l8)] jM230 jq230_367 rfl rfl (jo_92 s148.1) rfl jM150 rfl rfl ?_
            show jb_w (d + 1) 150 0 [some (.ref 92), some (jb_v l8)] [] σ148 (jb_k (d + 2) 230 367 [some (.ref 92), some (jb_v l1), some (jb_v l2), some (jb_v l3), some (jb_v l4), some (jb_v l5), some (jb_v l6), some (jb_v l7), some (jb_v l8), some (jb_v l9)] [(jb_v (l9 + 1)), (jb_v ((4 * l3) + 2)), (.ref 117)] Q)
            refine jaL0 (p := 1) rfl jM150 jq150_0 ?_
            refine jw_getP (p := 4) (i := 1) (q := 93) rfl jM150 jq150_1 rfl (jo_92 s148.1) je_11_1 (jp_92_1 s148.1) ?_
            refine jw_bipush (p := 6) rfl jM150 jq150_4 (by decide) ?_
            refine jiL1 (p := 7) rfl jM150 jq150_6 ?_
            refine jw_imul (p := 8) rfl jM150 jq150_7 ?_
            refine jw_iconst (p := 9) rfl jM150 jq150_8 ?_
            refine jw_iadd (p := 10) rfl jM150 jq150_9 ?_
            refine jg_iald (p := 11) rfl jM150 jq150_10 (ja_93 s148.1) c123.1 c123.2 s148 (by decide) ((jg_uN (by decide)).trans (jg_uN (by decide))) ?_
            refine jw_iret jM150 jq150_11 (fun z => absurd z (by decide)) ?_
            show jb_w (d + 2) 230 370 [some (.ref 92), some (jb_v l1), some (jb_v l2), some (jb_v l3), some (jb_v l4), some (jb_v l5), some (jb_v l6), some (jb_v l7), some (jb_v l8), some (jb_v l9)] [(jb_v (G 93 ((67 * l8) + 2))), (jb_v (l9 + 1)), (jb_v ((4 * l3) + 2)), (.ref 117)] σ148 Q
            obtain ⟨c149, h149⟩ := jo_i h147
            refine jw_ic (p := 373) rfl jM230 jq230_370 (jc_ge c149 (s.r _ _)) (fun c150 => ?_) (fun c150 => ?_)
            · have h150 := jo_p c150 h149
              refine jiL6 (p := 388) rfl jM230 jq230_386 ?_
              obtain ⟨c151, h151⟩ := jo_i h150
              refine jg_iast (p := 389) rfl jM230 jq230_388 (ja_117 s148.1) c151.1 c151.2 s148 (by decide) hl6 ?_
              intro σ152 s152
              refine jaL0 (p := 390) rfl jM230 jq230_389 ?_
              refine jw_getP (p := 393) (i := 34) (q := 117) rfl jM230 jq230_390 rfl (jo_92 s152.1) je_11_34 (jp_92_34 s152.1) ?_
              refine jw_iconst (p := 394) rfl jM230 jq230_393 ?_
              refine jiL3 (p := 395) rfl jM230 jq230_394 ?_
              refine jw_imul (p := 396) rfl jM230 jq230_395 ?_
              refine jw_iconst (p := 397) rfl jM230 jq230_396 ?_
              refine jw_iadd (p := 398) rfl jM230 jq230_397 ?_
              refine jiL7 (p := 400) rfl jM230 jq230_398 ?_
              refine jw_iconst (p := 401) rfl jM230 jq230_400 ?_
              refine jw_iadd (p := 402) rfl jM230 jq230_401 ?_
              obtain ⟨c153, h153⟩ := jo_i h151
              obtain ⟨c154, h154⟩ := jo_i h153
              refine jg_iast (p := 403) rfl jM230 jq230_402 (ja_117 s152.1) c153.1 c153.2 s152 (by decide) c154 ?_
              intro σ155 s155
              refine jiI3 (p := 406) rfl jM230 jq230_403 ?_
              refine jiI9 (p := 409) rfl jM230 jq230_406 ?_
              refine jw_goto jM230 jq230_409 ?_
              obtain ⟨c156, h156⟩ := jo_i h154
              exact ih.2 hl1 hl2 c156 hl4 hl5 hl6 hl7 hl8 c149 h156 k σ155 s155
            · have h150 := jo_n c150 h149
              refine jaL0 (p := 374) rfl jM230 jq230_373 ?_
              refine jiL8 (p := 376) rfl jM230 jq230_374 ?_
              refine jiL9 (p := 378) rfl jM230 jq230_376 ?_
              refine jw_iconst (p := 379) rfl jM230 jq230_378 ?_
              refine jw_iadd (p := 380) rfl jM230 jq230_379 ?_
              refine jw_callV [(jb_v l8), (jb_v (l9 + 1))] jM230 jq230_380 rfl rfl (jo_92 s148.1) rfl jM151 rfl rfl ?_
              show jb_w (d + 1) 151 0 [some (.ref 92), some (jb_v l8), some (jb_v (l9 + 1))] [] σ148 (jb_k (d + 2) 230 380 [some (.ref 92), some (jb_v l1), some (jb_v l2), some (jb_v l3), some (jb_v l4), some (jb_v l5), some (jb_v l6), some (jb_v l7), some (jb_v l8), some (jb_v l9)] [(jb_v ((4 * l3) + 2)), (.ref 117)] Q)
              refine jaL0 (p := 1) rfl jM151 jq151_0 ?_
              refine jw_getP (p := 4) (i := 1) (q := 93) rfl jM151 jq151_1 rfl (jo_92 s148.1) je_11_1 (jp_92_1 s148.1) ?_
              refine jw_bipush (p := 6) rfl jM151 jq151_4 (by decide) ?_
              refine jiL1 (p := 7) rfl jM151 jq151_6 ?_
              refine jw_imul (p := 8) rfl jM151 jq151_7 ?_
              refine jw_iconst (p := 9) rfl jM151 jq151_8 ?_
              refine jw_iadd (p := 10) rfl jM151 jq151_9 ?_
              refine jw_iconst (p := 11) rfl jM151 jq151_10 ?_
              refine jiL2 (p := 12) rfl jM151 jq151_11 ?_
              refine jw_imul (p := 13) rfl jM151 jq151_12 ?_
              refine jw_iadd (p := 14) rfl jM151 jq151_13 ?_
              obtain ⟨c157, h157⟩ := jo_i h150
              refine jg_iald (p := 15) rfl jM151 jq151_14 (ja_93 s148.1) c157.1 c157.2 s148 (by decide) ((jg_uN (by decide)).trans (jg_uN (by decide))) ?_
              refine jw_iret jM151 jq151_15 (fun z => absurd z (by decide)) ?_
              show jb_w (d + 2) 230 383 [some (.ref 92), some (jb_v l1), some (jb_v l2), some (jb_v l3), some (jb_v l4), some (jb_v l5), some (jb_v l6), some (jb_v l7), some (jb_v l8), some (jb_v l9)] [(jb_v (G 93 (((67 * l8) + 3) + (2 * (l9 + 1))))), (jb_v ((4 * l3) + 2)), (.ref 117)] σ148 Q
              refine jw_goto jM230 jq230_383 ?_
              obtain ⟨c158, h158⟩ := jo_i h157
              refine jg_iast (p := 389) rfl jM230 jq230_388 (ja_117 s148.1) c158.1 c158.2 s148 (by decide) (s.r _ _) ?_
              intro σ159 s159
              refine jaL0 (p := 390) rfl jM230 jq230_389 ?_
              refine jw_getP (p := 393) (i := 34) (q := 117) rfl jM230 jq230_390 rfl (jo_92 s159.1) je_11_34 (jp_92_34 s159.1) ?_
              refine jw_iconst (p := 394) rfl jM230 jq230_393 ?_
              refine jiL3 (p := 395) rfl jM230 jq230_394 ?_
              refine jw_imul (p := 396) rfl jM230 jq230_395 ?_
              refine jw_iconst (p := 397) rfl jM230 jq230_396 ?_
              refine jw_iadd (p := 398) rfl jM230 jq230_397 ?_
              refine jiL7 (p := 400) rfl jM230 jq230_398 ?_
              refine jw_iconst (p := 401) rfl jM230 jq230_400 ?_
              refine jw_iadd (p := 402) rfl jM230 jq230_401 ?_
              obtain ⟨c160, h160⟩ := jo_i h158
              obtain ⟨c161, h161⟩ := jo_i h160
              refine jg_iast (p := 403) rfl jM230 jq230_402 (ja_117 s159.1) c160.1 c160.2 s159 (by decide) c161 ?_
              intro σ162 s162
              refine jiI3 (p := 406) rfl jM230 jq230_403 ?_
              refine jiI9 (p := 409) rfl jM230 jq230_406 ?_
              refine jw_goto jM230 jq230_409 ?_
              obtain ⟨c163, h163⟩ := jo_i h161
              exact ih.2 hl1 hl2 c163 hl4 hl5 hl6 hl7 hl8 c149 h163 k σ162 s162

def fo230_15 : Nat → jg_G → Int → Int → Int → Int → Option (jg_G × Int)
  | 0, _, _, _, _, _ => none
  | m + 1, G, l1, l2, l3, l4 => if 24 ≤ l4 then (fo230_s jo_N 65 (jg_u (jg_u (jg_u (jg_u G 117 0 0) 117 1 0) 117 2 32) 117 3 0) l1 l2 l3 l4 0 0 0 0 0) else (if 0 ≤ l4 ∧ l4 < 24 then if -2147483648 ≤ (l4 + 1) ∧ (l4 + 1) < 2147483648 then fo230_15 m (jg_u G 118 l4 0) l1 l2 l3 (l4 + 1) else none else none)
theorem jf230_15 {d : Nat} {σ0 : ib_H} {Q : ib_O → Prop} : ∀ (m : Nat) {G : jg_G} {l1 : Int} {l2 : Int} {l3 : Int} {l4 : Int} (hl1 : jb_r l1) (hl2 : jb_r l2) (hl3 : jb_r l3) (hl4 : jb_r l4) {r : jg_G × Int} (h : fo230_15 m G l1 l2 l3 l4 = some r) (k : ∀ σ, jg_S σ0 r.1 σ → jb_r r.2 → Q (.inl (some (jb_v r.2)), σ)), jg_W σ0 G (d + 2) 230 15 [some (.ref 92), some (jb_v l1), some (jb_v l2), some (jb_v l3), some (jb_v l4), none, none, none, none, none] [] Q := by
  intro m
  induction m with
  | zero =>
    intro G l1 l2 l3 l4 hl1 hl2 hl3 hl4 r h k
    cases h
  | succ m ih =>
    intro G l1 l2 l3 l4 hl1 hl2 hl3 hl4 r h k σ s
    unfold fo230_15 at h
    refine jiL4 (p := 17) rfl jM230 jq230_15 ?_
    refine jw_bipush (p := 19) rfl jM230 jq230_17 (by decide) ?_
    refine jw_ic (p := 22) rfl jM230 jq230_19 (jc_ge hl4 (jb_rn rfl)) (fun c1 => ?_) (fun c1 => ?_)
    · have h1 := jo_p c1 h
      refine jaL0 (p := 37) rfl jM230 jq230_36 ?_
      refine jw_getP (p := 40) (i := 34) (q := 117) rfl jM230 jq230_37 rfl (jo_92 s.1) je_11_34 (jp_92_34 s.1) ?_
      refine jw_iconst (p := 41) rfl jM230 jq230_40 ?_
      refine jw_iconst (p := 42) rfl jM230 jq230_41 ?_
      refine jg_iast (p := 43) rfl jM230 jq230_42 (ja_117 s.1) (by decide) (by decide) s (by decide) (jb_rn rfl) ?_
      intro σ2 s2
      refine jaL0 (p := 44) rfl jM230 jq230_43 ?_
      refine jw_getP (p := 47) (i := 34) (q := 117) rfl jM230 jq230_44 rfl (jo_92 s2.1) je_11_34 (jp_92_34 s2.1) ?_
      refine jw_iconst (p := 48) rfl jM230 jq230_47 ?_
      refine jw_iconst (p := 49) rfl jM230 jq230_48 ?_
      refine jg_iast (p := 50) rfl jM230 jq230_49 (ja_117 s2.1) (by decide) (by decide) s2 (by decide) (jb_rn rfl) ?_
      intro σ3 s3
      refine jaL0 (p := 51) rfl jM230 jq230_50 ?_
      refine jw_getP (p := 54) (i := 34) (q := 117) rfl jM230 jq230_51 rfl (jo_92 s3.1) je_11_34 (jp_92_34 s3.1) ?_
      refine jw_iconst (p := 55) rfl jM230 jq230_54 ?_
      refine jw_bipush (p := 57) rfl jM230 jq230_55 (by decide) ?_
      refine jg_iast (p := 58) rfl jM230 jq230_57 (ja_117 s3.1) (by decide) (by decide) s3 (by decide) (jb_rn rfl) ?_
      intro σ4 s4
      refine jaL0 (p := 59) rfl jM230 jq230_58 ?_
      refine jw_getP (p := 62) (i := 34) (q := 117) rfl jM230 jq230_59 rfl (jo_92 s4.1) je_11_34 (jp_92_34 s4.1) ?_
      refine jw_iconst (p := 63) rfl jM230 jq230_62 ?_
      refine jw_iconst (p := 64) rfl jM230 jq230_63 ?_
      refine jg_iast (p := 65) rfl jM230 jq230_64 (ja_117 s4.1) (by decide) (by decide) s4 (by decide) (jb_rn rfl) ?_
      intro σ5 s5
      exact (jf230_s jo_N).1 hl1 hl2 hl3 hl4 h1 k σ5 s5
    · have h1 := jo_n c1 h
      refine jaL0 (p := 23) rfl jM230 jq230_22 ?_
      refine jw_getP (p := 26) (i := 35) (q := 118) rfl jM230 jq230_23 rfl (jo_92 s.1) je_11_35 (jp_92_35 s.1) ?_
      refine jiL4 (p := 28) rfl jM230 jq230_26 ?_
      refine jw_iconst (p := 29) rfl jM230 jq230_28 ?_
      obtain ⟨c6, h6⟩ := jo_i h1
      refine jg_bast (p := 30) rfl jM230 jq230_29 (ja_118 s.1) c6.1 c6.2 (Or.inl rfl) s (by decide) ?_
      intro σ7 s7
      refine jiI4 (p := 33) rfl jM230 jq230_30 ?_
      refine jw_goto jM230 jq230_33 ?_
      obtain ⟨c8, h8⟩ := jo_i h6
      exact ih hl1 hl2 hl3 c8 h8 k σ7 s7
def fo230 (G : jg_G) : Option (jg_G × Int) := fo230_15 jo_N (jg_u G 92 0 0) 9 (-1) 1 0
theorem jf230 {d : Nat} {σ0 : ib_H} {Q : ib_O → Prop} {G : jg_G} {r : jg_G × Int} (h : fo230 G  = some r) (k : ∀ σ, jg_S σ0 r.1 σ → jb_r r.2 → Q (.inl (some (jb_v r.2)), σ)) : jg_W σ0 G (d + 2) 230 0 [some (.ref 92), none, none, none, none, none, none, none, none, none] [] Q := by
  intro σ s
  unfold fo230 at h
  refine jaL0 (p := 1) rfl jM230 jq230_0 ?_
  refine jw_iconst (p := 2) rfl jM230 jq230_1 ?_
  refine jg_putI (p := 5) (i := 0) rfl jM230 jq230_2 rfl (jo_92 s.1) (Or.inl jz_11_0) s (by decide) (by decide) (jb_rn rfl) ?_
  intro σ1 s1
  refine jw_bipush (p := 7) rfl jM230 jq230_5 (by decide) ?_
  refine jiS1 (p := 8) rfl jM230 jq230_7 ?_
  refine jw_iconst (p := 9) rfl jM230 jq230_8 ?_
  refine jiS2 (p := 10) rfl jM230 jq230_9 ?_
  refine jw_iconst (p := 11) rfl jM230 jq230_10 ?_
  refine jiS3 (p := 12) rfl jM230 jq230_11 ?_
  refine jw_iconst (p := 13) rfl jM230 jq230_12 ?_
  refine jiS4 (p := 15) rfl jM230 jq230_13 ?_
  exact jf230_15 jo_N (jb_rn rfl) (jb_rn rfl) (jb_rn rfl) (jb_rn rfl) h k σ1 s1
