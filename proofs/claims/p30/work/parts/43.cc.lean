/-! the class as functions: written by wip/tools/genc.py (gc1.py) -/
-- 51 PageLoom$Recovery.begin need 0
def fc51_2 : Nat → jc_K → Int → Option (jc_K × Int)
  | 0, _, _ => none
  | m + 1, K, l1 => if 4 ≤ l1 then (some (K, 0)) else (if 0 ≤ l1 ∧ l1 < 4 then if -2147483648 ≤ (l1 + 1) ∧ (l1 + 1) < 2147483648 then fc51_2 m (jc_ui K 85 l1 0) (l1 + 1) else none else none)
theorem jd51_2 {d : Nat} {σ0 : ib_H} {Q : ib_O → Prop} : ∀ (m : Nat) {K : jc_K} {l1 : Int} (hl1 : jb_r l1) {r : (jc_K × Int)} (h : fc51_2 m K l1 = some r) (k : ∀ σ, jc_S σ0 r.1 σ → Q (.inl none, σ)), jc_W σ0 K d 51 2 [some (.ref 83), some (jb_v l1)] [] Q := by
  intro m
  induction m with
  | zero =>
    intro K l1 hl1 r h k
    cases h
  | succ m ih =>
    intro K l1 hl1 r h k σ s
    unfold fc51_2 at h
    refine jiL1 (p := 3) rfl jM51 jq51_2 ?_
    refine jw_iconst (p := 4) rfl jM51 jq51_3 ?_
    refine jw_ic (p := 7) rfl jM51 jq51_4 (jc_ge hl1 (jb_rn rfl)) (fun c1 => ?_) (fun c1 => ?_)
    · have h1 := jo_p c1 h
      cases h1
      exact jw_vret jM51 jq51_20 (k σ s)
    · have h1 := jo_n c1 h
      refine jaL0 (p := 8) rfl jM51 jq51_7 ?_
      refine jw_getP (p := 11) (i := 6) (q := 85) rfl jM51 jq51_8 rfl (jo_83 s.1) je_5_6 (jp_83_6 s.1) ?_
      refine jiL1 (p := 12) rfl jM51 jq51_11 ?_
      refine jw_iconst (p := 13) rfl jM51 jq51_12 ?_
      obtain ⟨c2, h2⟩ := jo_i h1
      refine jc_iast (p := 14) rfl jM51 jq51_13 (ja_85 s.1) c2.1 c2.2 s (by decide) (jb_rn rfl) ?_
      intro σ3 s3
      refine jiI1 (p := 17) rfl jM51 jq51_14 ?_
      refine jw_goto jM51 jq51_17 ?_
      obtain ⟨c4, h4⟩ := jo_i h2
      exact ih c4 h4 k σ3 s3
def fc51 (K : jc_K) : Option (jc_K × Int) := fc51_2 jo_N K 0
theorem jd51 {d : Nat} {σ0 : ib_H} {Q : ib_O → Prop} {K : jc_K} {r : (jc_K × Int)} (h : fc51 K  = some r) (k : ∀ σ, jc_S σ0 r.1 σ → Q (.inl none, σ)) : jc_W σ0 K d 51 0 [some (.ref 83), none] [] Q := by
  intro σ s
  unfold fc51 at h
  refine jw_iconst (p := 1) rfl jM51 jq51_0 ?_
  refine jiS1 (p := 2) rfl jM51 jq51_1 ?_
  exact jd51_2 jo_N (jb_rn rfl) h k σ s
-- 52 PageLoom$Recovery.mend need 2
def fc52 (K : jc_K) : Option (jc_K × Int) := (fc16 K ).bind fun x1 => if x1.2 = 0 then (some (x1.1, 1)) else ((fc17 (x1.1) ).bind fun x4 => if x4.2 = 2 then (some (jc_ui (x4.1) 85 3 (x4.2), 1)) else (some (jc_ui (x4.1) 85 3 (x4.2), 0)))
theorem jd52 {d : Nat} {σ0 : ib_H} {Q : ib_O → Prop} {K : jc_K} {r : (jc_K × Int)} (h : fc52 K  = some r) (k : ∀ σ, jc_S σ0 r.1 σ → jb_r r.2 → Q (.inl (some (jb_v r.2)), σ)) : jc_W σ0 K (d + 2) 52 0 [some (.ref 83)] [] Q := by
  intro σ s
  unfold fc52 at h
  refine jaL0 (p := 1) rfl jM52 jq52_0 ?_
  refine jw_getP (p := 4) (i := 0) (q := 3) rfl jM52 jq52_1 rfl (jo_83 s.1) je_5_0 (jp_83_0 s.1) ?_
  refine jw_callV [] jM52 jq52_4 rfl rfl (jo_3 s.1) rfl jM16 rfl rfl ?_
  obtain ⟨x1, b2, h2⟩ := jo_b h
  refine jd16  b2 (fun σ1 s1 r1 => ?_) σ s
  show jb_w (d + 2) 52 7 [some (.ref 83)] [(jb_v (x1.2))] σ1 Q
  refine jw_if (p := 10) rfl jM52 jq52_7 (jc_ne r1 jb_r0) (fun c3 => ?_) (fun c3 => ?_)
  · have h3 := jo_n c3 h2
    refine jaL0 (p := 13) rfl jM52 jq52_12 ?_
    refine jw_getP (p := 16) (i := 6) (q := 85) rfl jM52 jq52_13 rfl (jo_83 s1.1) je_5_6 (jp_83_6 s1.1) ?_
    refine jw_iconst (p := 17) rfl jM52 jq52_16 ?_
    refine jaL0 (p := 18) rfl jM52 jq52_17 ?_
    refine jw_getP (p := 21) (i := 0) (q := 3) rfl jM52 jq52_18 rfl (jo_83 s1.1) je_5_0 (jp_83_0 s1.1) ?_
    refine jw_callV [] jM52 jq52_21 rfl rfl (jo_3 s1.1) rfl jM17 rfl rfl ?_
    obtain ⟨x4, b5, h5⟩ := jo_b h3
    refine jd17  b5 (fun σ4 s4 r4 => ?_) σ1 s1
    show jb_w (d + 2) 52 24 [some (.ref 83)] [(jb_v (x4.2)), (jb_v 3), (.ref 85)] σ4 Q
    refine jc_iast (p := 25) rfl jM52 jq52_24 (ja_85 s4.1) (by decide) (by decide) s4 (by decide) r4 ?_
    intro σ6 s6
    refine jaL0 (p := 26) rfl jM52 jq52_25 ?_
    refine jw_getP (p := 29) (i := 6) (q := 85) rfl jM52 jq52_26 rfl (jo_83 s6.1) je_5_6 (jp_83_6 s6.1) ?_
    refine jw_iconst (p := 30) rfl jM52 jq52_29 ?_
    refine jc_iald (p := 31) rfl jM52 jq52_30 (ja_85 s6.1) (by decide) (by decide) s6 (by decide) jc_uH ?_
    refine jw_iconst (p := 32) rfl jM52 jq52_31 ?_
    refine jw_ic (p := 35) rfl jM52 jq52_32 (jc_ne r4 (jb_rn rfl)) (fun c7 => ?_) (fun c7 => ?_)
    · have h7 := jo_n c7 h5
      refine jw_iconst (p := 40) rfl jM52 jq52_39 ?_
      cases h7
      exact jw_iret jM52 jq52_40 (fun _ => Or.inl rfl) (k σ6 s6 (jb_rn rfl))
    · have h7 := jo_p (Decidable.byContradiction c7) h5
      refine jw_iconst (p := 36) rfl jM52 jq52_35 ?_
      refine jw_goto jM52 jq52_36 ?_
      cases h7
      exact jw_iret jM52 jq52_40 (fun _ => Or.inr rfl) (k σ6 s6 (jb_rn rfl))
  · have h3 := jo_p (Decidable.byContradiction c3) h2
    refine jw_iconst (p := 11) rfl jM52 jq52_10 ?_
    cases h3
    exact jw_iret jM52 jq52_11 (fun _ => Or.inr rfl) (k σ1 s1 (jb_rn rfl))
-- 54 PageLoom$Recovery.latestMark need 1
def fc54_8 : Nat → jc_K → Int → Option (jc_K × Int)
  | 0, _, _ => none
  | m + 1, K, l1 => if l1 ≤ 1 then (some (K, 1)) else ((fc19 K l1).bind fun x2 => if x2.2 = 0 then (if -2147483648 ≤ (l1 + (-1)) ∧ (l1 + (-1)) < 2147483648 then fc54_8 m (x2.1) (l1 + (-1)) else none) else (if jc_rc (x2.1) (x2.2) then if jc_i (x2.1) (x2.2) 1 = 4 then (some (x2.1, l1)) else (if -2147483648 ≤ (l1 + (-1)) ∧ (l1 + (-1)) < 2147483648 then fc54_8 m (x2.1) (l1 + (-1)) else none) else none))
theorem jd54_8 {d : Nat} {σ0 : ib_H} {Q : ib_O → Prop} : ∀ (m : Nat) {K : jc_K} {l1 : Int} {o2 : Option Value} (hl1 : jb_r l1) {r : (jc_K × Int)} (h : fc54_8 m K l1 = some r) (k : ∀ σ, jc_S σ0 r.1 σ → jb_r r.2 → Q (.inl (some (jb_v r.2)), σ)), jc_W σ0 K (d + 1) 54 8 [some (.ref 83), some (jb_v l1), o2] [] Q := by
  intro m
  induction m with
  | zero =>
    intro K l1 o2 hl1 r h k
    cases h
  | succ m ih =>
    intro K l1 o2 hl1 r h k σ s
    unfold fc54_8 at h
    refine jiL1 (p := 9) rfl jM54 jq54_8 ?_
    refine jw_iconst (p := 10) rfl jM54 jq54_9 ?_
    refine jw_ic (p := 13) rfl jM54 jq54_10 (jc_le hl1 (jb_rn rfl)) (fun c1 => ?_) (fun c1 => ?_)
    · have h1 := jo_p c1 h
      refine jw_iconst (p := 43) rfl jM54 jq54_42 ?_
      cases h1
      exact jw_iret jM54 jq54_43 (fun z => absurd z (by decide)) (k σ s (jb_rn rfl))
    · have h1 := jo_n c1 h
      refine jaL0 (p := 14) rfl jM54 jq54_13 ?_
      refine jw_getP (p := 17) (i := 1) (q := 63) rfl jM54 jq54_14 rfl (jo_83 s.1) je_5_1 (jp_83_1 s.1) ?_
      refine jiL1 (p := 18) rfl jM54 jq54_17 ?_
      refine jw_callV [(jb_v l1)] jM54 jq54_18 rfl rfl (jo_63 s.1) rfl jM19 rfl rfl ?_
      obtain ⟨x2, b3, h3⟩ := jo_b h1
      refine jd19 hl1 b3 (fun σ2 s2 => ?_) σ s
      show jb_w (d + 1) 54 21 [some (.ref 83), some (jb_v l1), o2] [(.ref (x2.2))] σ2 Q
      refine jaS2 (p := 22) rfl jM54 jq54_21 ?_
      refine jaL2 (p := 23) rfl jM54 jq54_22 ?_
      refine jw_ifnull (p := 26) rfl jM54 jq54_23 (fun c4 => ?_) (fun c4 => ?_)
      · have h4 := jo_p c4 h3
        refine jiI1 (p := 39) rfl jM54 jq54_36 ?_
        refine jw_goto jM54 jq54_39 ?_
        obtain ⟨c5, h5⟩ := jo_i h4
        exact ih c5 h5 k σ2 s2
      · have h4 := jo_n c4 h3
        refine jaL2 (p := 27) rfl jM54 jq54_26 ?_
        obtain ⟨c6, h6⟩ := jo_i h4
        refine jc_getI (p := 30) (i := 1) rfl jM54 jq54_27 rfl (s2.rc c6).ob jn_3_1 s2 (jc_rcd c6) (by decide) rfl ?_
        refine jw_iconst (p := 31) rfl jM54 jq54_30 ?_
        refine jw_ic (p := 34) rfl jM54 jq54_31 (jc_ne (s2.r _ _) (jb_rn rfl)) (fun c7 => ?_) (fun c7 => ?_)
        · have h7 := jo_n c7 h6
          refine jiI1 (p := 39) rfl jM54 jq54_36 ?_
          refine jw_goto jM54 jq54_39 ?_
          obtain ⟨c8, h8⟩ := jo_i h7
          exact ih c8 h8 k σ2 s2
        · have h7 := jo_p (Decidable.byContradiction c7) h6
          refine jiL1 (p := 35) rfl jM54 jq54_34 ?_
          cases h7
          exact jw_iret jM54 jq54_35 (fun z => absurd z (by decide)) (k σ2 s2 hl1)
def fc54 (K : jc_K) : Option (jc_K × Int) := fc54_8 jo_N K (jc_i K 63 4)
theorem jd54 {d : Nat} {σ0 : ib_H} {Q : ib_O → Prop} {K : jc_K} {r : (jc_K × Int)} (h : fc54 K  = some r) (k : ∀ σ, jc_S σ0 r.1 σ → jb_r r.2 → Q (.inl (some (jb_v r.2)), σ)) : jc_W σ0 K (d + 1) 54 0 [some (.ref 83), none, none] [] Q := by
  intro σ s
  unfold fc54 at h
  refine jaL0 (p := 1) rfl jM54 jq54_0 ?_
  refine jw_getP (p := 4) (i := 1) (q := 63) rfl jM54 jq54_1 rfl (jo_83 s.1) je_5_1 (jp_83_1 s.1) ?_
  refine jc_getI (p := 7) (i := 4) rfl jM54 jq54_4 rfl (jo_63 s.1) jn_2_4 s (by decide) (by decide) rfl ?_
  refine jiS1 (p := 8) rfl jM54 jq54_7 ?_
  exact jd54_8 jo_N (s.r _ _) h k σ s
-- 55 PageLoom$Recovery.believe need 1
def fc55_29 : Nat → jc_K → Nat → Int → Option (jc_K × Int)
  | 0, _, _, _ => none
  | m + 1, K, l1, l2 => if 24 ≤ l2 then (some (K, 0)) else (if jc_rc K l1 then (fc29 K l1 l2).bind fun x3 => if 0 ≤ l2 ∧ l2 < 24 then if -2147483648 ≤ (l2 + 1) ∧ (l2 + 1) < 2147483648 then fc55_29 m (jc_ui (x3.1) 84 l2 (x3.2)) l1 (l2 + 1) else none else none else none)
theorem jd55_29 {d : Nat} {σ0 : ib_H} {Q : ib_O → Prop} : ∀ (m : Nat) {K : jc_K} {l1 : Nat} {l2 : Int} (hl2 : jb_r l2) {r : (jc_K × Int)} (h : fc55_29 m K l1 l2 = some r) (k : ∀ σ, jc_S σ0 r.1 σ → Q (.inl none, σ)), jc_W σ0 K (d + 1) 55 29 [some (.ref 83), some (.ref l1), some (jb_v l2)] [] Q := by
  intro m
  induction m with
  | zero =>
    intro K l1 l2 hl2 r h k
    cases h
  | succ m ih =>
    intro K l1 l2 hl2 r h k σ s
    unfold fc55_29 at h
    refine jiL2 (p := 30) rfl jM55 jq55_29 ?_
    refine jw_bipush (p := 32) rfl jM55 jq55_30 (by decide) ?_
    refine jw_ic (p := 35) rfl jM55 jq55_32 (jc_ge hl2 (jb_rn rfl)) (fun c1 => ?_) (fun c1 => ?_)
    · have h1 := jo_p c1 h
      cases h1
      exact jw_vret jM55 jq55_52 (k σ s)
    · have h1 := jo_n c1 h
      refine jaL0 (p := 36) rfl jM55 jq55_35 ?_
      refine jw_getP (p := 39) (i := 5) (q := 84) rfl jM55 jq55_36 rfl (jo_83 s.1) je_5_5 (jp_83_5 s.1) ?_
      refine jiL2 (p := 40) rfl jM55 jq55_39 ?_
      refine jaL1 (p := 41) rfl jM55 jq55_40 ?_
      refine jiL2 (p := 42) rfl jM55 jq55_41 ?_
      obtain ⟨c2, h2⟩ := jo_i h1
      refine jw_callV [(jb_v l2)] jM55 jq55_42 rfl rfl (s.rc c2).ob rfl jM29 rfl rfl ?_
      obtain ⟨x3, b4, h4⟩ := jo_b h2
      refine jd29 hl2 b4 (fun σ3 s3 r3 => ?_) σ s
      show jb_w (d + 1) 55 45 [some (.ref 83), some (.ref l1), some (jb_v l2)] [(jb_v (x3.2)), (jb_v l2), (.ref 84)] σ3 Q
      obtain ⟨c5, h5⟩ := jo_i h4
      refine jc_iast (p := 46) rfl jM55 jq55_45 (ja_84 s3.1) c5.1 c5.2 s3 (by decide) r3 ?_
      intro σ6 s6
      refine jiI2 (p := 49) rfl jM55 jq55_46 ?_
      refine jw_goto jM55 jq55_49 ?_
      obtain ⟨c7, h7⟩ := jo_i h5
      exact ih c7 h7 k σ6 s6
def fc55_2 : Nat → jc_K → Nat → Int → Option (jc_K × Int)
  | 0, _, _, _ => none
  | m + 1, K, l1, l2 => if 4 ≤ l2 then (fc55_29 jo_N K l1 0) else (if jc_rc K l1 then (fc28 K l1 l2).bind fun x3 => if 0 ≤ l2 ∧ l2 < 4 then if -2147483648 ≤ (l2 + 1) ∧ (l2 + 1) < 2147483648 then fc55_2 m (jc_ui (x3.1) 59 l2 (x3.2)) l1 (l2 + 1) else none else none else none)
theorem jd55_2 {d : Nat} {σ0 : ib_H} {Q : ib_O → Prop} : ∀ (m : Nat) {K : jc_K} {l1 : Nat} {l2 : Int} (hl2 : jb_r l2) {r : (jc_K × Int)} (h : fc55_2 m K l1 l2 = some r) (k : ∀ σ, jc_S σ0 r.1 σ → Q (.inl none, σ)), jc_W σ0 K (d + 1) 55 2 [some (.ref 83), some (.ref l1), some (jb_v l2)] [] Q := by
  intro m
  induction m with
  | zero =>
    intro K l1 l2 hl2 r h k
    cases h
  | succ m ih =>
    intro K l1 l2 hl2 r h k σ s
    unfold fc55_2 at h
    refine jiL2 (p := 3) rfl jM55 jq55_2 ?_
    refine jw_iconst (p := 4) rfl jM55 jq55_3 ?_
    refine jw_ic (p := 7) rfl jM55 jq55_4 (jc_ge hl2 (jb_rn rfl)) (fun c1 => ?_) (fun c1 => ?_)
    · have h1 := jo_p c1 h
      refine jw_iconst (p := 28) rfl jM55 jq55_27 ?_
      refine jiS2 (p := 29) rfl jM55 jq55_28 ?_
      exact jd55_29 jo_N (jb_rn rfl) h1 k σ s
    · have h1 := jo_n c1 h
      refine jaL0 (p := 8) rfl jM55 jq55_7 ?_
      refine jw_getP (p := 11) (i := 4) (q := 57) rfl jM55 jq55_8 rfl (jo_83 s.1) je_5_4 (jp_83_4 s.1) ?_
      refine jw_getP (p := 14) (i := 1) (q := 59) rfl jM55 jq55_11 rfl (jo_57 s.1) je_6_1 (jp_57_1 s.1) ?_
      refine jiL2 (p := 15) rfl jM55 jq55_14 ?_
      refine jaL1 (p := 16) rfl jM55 jq55_15 ?_
      refine jiL2 (p := 17) rfl jM55 jq55_16 ?_
      obtain ⟨c2, h2⟩ := jo_i h1
      refine jw_callV [(jb_v l2)] jM55 jq55_17 rfl rfl (s.rc c2).ob rfl jM28 rfl rfl ?_
      obtain ⟨x3, b4, h4⟩ := jo_b h2
      refine jd28 hl2 b4 (fun σ3 s3 r3 => ?_) σ s
      show jb_w (d + 1) 55 20 [some (.ref 83), some (.ref l1), some (jb_v l2)] [(jb_v (x3.2)), (jb_v l2), (.ref 59)] σ3 Q
      obtain ⟨c5, h5⟩ := jo_i h4
      refine jc_iast (p := 21) rfl jM55 jq55_20 (ja_59 s3.1) c5.1 c5.2 s3 (by decide) r3 ?_
      intro σ6 s6
      refine jiI2 (p := 24) rfl jM55 jq55_21 ?_
      refine jw_goto jM55 jq55_24 ?_
      obtain ⟨c7, h7⟩ := jo_i h5
      exact ih c7 h7 k σ6 s6
def fc55 (K : jc_K) (l1 : Nat) : Option (jc_K × Int) := fc55_2 jo_N K l1 0
theorem jd55 {d : Nat} {σ0 : ib_H} {Q : ib_O → Prop} {K : jc_K} {l1 : Nat} {r : (jc_K × Int)} (h : fc55 K l1 = some r) (k : ∀ σ, jc_S σ0 r.1 σ → Q (.inl none, σ)) : jc_W σ0 K (d + 1) 55 0 [some (.ref 83), some (.ref l1), none] [] Q := by
  intro σ s
  unfold fc55 at h
  refine jw_iconst (p := 1) rfl jM55 jq55_0 ?_
  refine jiS2 (p := 2) rfl jM55 jq55_1 ?_
  exact jd55_2 jo_N (jb_rn rfl) h k σ s
-- 56 PageLoom$Recovery.readRecord need 1
def fc56_60 : Nat → jc_K → Nat → Int → Int → Option (jc_K × Int)
  | 0, _, _, _, _ => none
  | m + 1, K, l1, l2, l3 => if jc_rc K l1 then if jc_i K l1 8 ≤ l3 then (some (K, 0)) else ((fc30 K l1 l3).bind fun x3 => if x3.2 < 0 then (if -2147483648 ≤ (l3 + 1) ∧ (l3 + 1) < 2147483648 then fc56_60 m (x3.1) l1 l2 (l3 + 1) else none) else (if 24 ≤ x3.2 then (if -2147483648 ≤ (l3 + 1) ∧ (l3 + 1) < 2147483648 then fc56_60 m (x3.1) l1 l2 (l3 + 1) else none) else (if 0 ≤ (x3.2) ∧ (x3.2) < 24 then if jc_i (x3.1) 84 (x3.2) = 0 then (if -2147483648 ≤ (l3 + 1) ∧ (l3 + 1) < 2147483648 then fc56_60 m (jc_ui (x3.1) 84 (x3.2) l2) l1 l2 (l3 + 1) else none) else (if -2147483648 ≤ (l3 + 1) ∧ (l3 + 1) < 2147483648 then fc56_60 m (x3.1) l1 l2 (l3 + 1) else none) else none))) else none
theorem jd56_60 {d : Nat} {σ0 : ib_H} {Q : ib_O → Prop} : ∀ (m : Nat) {K : jc_K} {l1 : Nat} {l2 : Int} {l3 : Int} {o4 : Option Value} (hl2 : jb_r l2) (hl3 : jb_r l3) {r : (jc_K × Int)} (h : fc56_60 m K l1 l2 l3 = some r) (k : ∀ σ, jc_S σ0 r.1 σ → Q (.inl none, σ)), jc_W σ0 K (d + 1) 56 60 [some (.ref 83), some (.ref l1), some (jb_v l2), some (jb_v l3), o4] [] Q := by
  intro m
  induction m with
  | zero =>
    intro K l1 l2 l3 o4 hl2 hl3 r h k
    cases h
  | succ m ih =>
    intro K l1 l2 l3 o4 hl2 hl3 r h k σ s
    unfold fc56_60 at h
    refine jiL3 (p := 61) rfl jM56 jq56_60 ?_
    refine jaL1 (p := 62) rfl jM56 jq56_61 ?_
    obtain ⟨c1, h1⟩ := jo_i h
    refine jc_getI (p := 65) (i := 8) rfl jM56 jq56_62 rfl (s.rc c1).ob jn_3_8 s (jc_rcd c1) (by decide) rfl ?_
    refine jw_ic (p := 68) rfl jM56 jq56_65 (jc_ge hl3 (s.r _ _)) (fun c2 => ?_) (fun c2 => ?_)
    · have h2 := jo_p c2 h1
      cases h2
      exact jw_vret jM56 jq56_111 (k σ s)
    · have h2 := jo_n c2 h1
      refine jaL1 (p := 69) rfl jM56 jq56_68 ?_
      refine jiL3 (p := 70) rfl jM56 jq56_69 ?_
      refine jw_callV [(jb_v l3)] jM56 jq56_70 rfl rfl (s.rc c1).ob rfl jM30 rfl rfl ?_
      obtain ⟨x3, b4, h4⟩ := jo_b h2
      refine jd30 hl3 b4 (fun σ3 s3 r3 => ?_) σ s
      show jb_w (d + 1) 56 73 [some (.ref 83), some (.ref l1), some (jb_v l2), some (jb_v l3), o4] [(jb_v (x3.2))] σ3 Q
      refine jiS4 (p := 75) rfl jM56 jq56_73 ?_
      refine jiL4 (p := 77) rfl jM56 jq56_75 ?_
      refine jw_if (p := 80) rfl jM56 jq56_77 (jc_lt r3 jb_r0) (fun c5 => ?_) (fun c5 => ?_)
      · have h5 := jo_p c5 h4
        refine jiI3 (p := 108) rfl jM56 jq56_105 ?_
        refine jw_goto jM56 jq56_108 ?_
        obtain ⟨c6, h6⟩ := jo_i h5
        exact ih hl2 c6 h6 k σ3 s3
      · have h5 := jo_n c5 h4
        refine jiL4 (p := 82) rfl jM56 jq56_80 ?_
        refine jw_bipush (p := 84) rfl jM56 jq56_82 (by decide) ?_
        refine jw_ic (p := 87) rfl jM56 jq56_84 (jc_ge r3 (jb_rn rfl)) (fun c7 => ?_) (fun c7 => ?_)
        · have h7 := jo_p c7 h5
          refine jiI3 (p := 108) rfl jM56 jq56_105 ?_
          refine jw_goto jM56 jq56_108 ?_
          obtain ⟨c8, h8⟩ := jo_i h7
          exact ih hl2 c8 h8 k σ3 s3
        · have h7 := jo_n c7 h5
          refine jaL0 (p := 88) rfl jM56 jq56_87 ?_
          refine jw_getP (p := 91) (i := 5) (q := 84) rfl jM56 jq56_88 rfl (jo_83 s3.1) je_5_5 (jp_83_5 s3.1) ?_
          refine jiL4 (p := 93) rfl jM56 jq56_91 ?_
          obtain ⟨c9, h9⟩ := jo_i h7
          refine jc_iald (p := 94) rfl jM56 jq56_93 (ja_84 s3.1) c9.1 c9.2 s3 (by decide) rfl ?_
          refine jw_if (p := 97) rfl jM56 jq56_94 (jc_ne (s3.r _ _) jb_r0) (fun c10 => ?_) (fun c10 => ?_)
          · have h10 := jo_n c10 h9
            refine jiI3 (p := 108) rfl jM56 jq56_105 ?_
            refine jw_goto jM56 jq56_108 ?_
            obtain ⟨c11, h11⟩ := jo_i h10
            exact ih hl2 c11 h11 k σ3 s3
          · have h10 := jo_p (Decidable.byContradiction c10) h9
            refine jaL0 (p := 98) rfl jM56 jq56_97 ?_
            refine jw_getP (p := 101) (i := 5) (q := 84) rfl jM56 jq56_98 rfl (jo_83 s3.1) je_5_5 (jp_83_5 s3.1) ?_
            refine jiL4 (p := 103) rfl jM56 jq56_101 ?_
            refine jiL2 (p := 104) rfl jM56 jq56_103 ?_
            refine jc_iast (p := 105) rfl jM56 jq56_104 (ja_84 s3.1) c9.1 c9.2 s3 (by decide) hl2 ?_
            intro σ12 s12
            refine jiI3 (p := 108) rfl jM56 jq56_105 ?_
            refine jw_goto jM56 jq56_108 ?_
            obtain ⟨c13, h13⟩ := jo_i h10
            exact ih hl2 c13 h13 k σ12 s12
def fc56 (K : jc_K) (l1 : Nat) (l2 : Int) : Option (jc_K × Int) := if jc_rc K l1 then if jc_i K l1 2 < 0 then (fc56_60 jo_N K l1 l2 0) else (if 4 ≤ jc_i K l1 2 then (fc56_60 jo_N K l1 l2 0) else (if jc_i K l1 1 = 2 then (if 0 ≤ (jc_i K l1 2) ∧ (jc_i K l1 2) < 4 then fc56_60 jo_N (jc_ui K 59 (jc_i K l1 2) 0) l1 l2 0 else none) else (if jc_i K l1 1 = 3 then (if 0 ≤ (jc_i K l1 2) ∧ (jc_i K l1 2) < 4 then fc56_60 jo_N (jc_ui K 59 (jc_i K l1 2) 0) l1 l2 0 else none) else (if 0 ≤ (jc_i K l1 2) ∧ (jc_i K l1 2) < 4 then fc56_60 jo_N (jc_ui K 59 (jc_i K l1 2) l2) l1 l2 0 else none)))) else none
theorem jd56 {d : Nat} {σ0 : ib_H} {Q : ib_O → Prop} {K : jc_K} {l1 : Nat} {l2 : Int} (hl2 : jb_r l2) {r : (jc_K × Int)} (h : fc56 K l1 l2 = some r) (k : ∀ σ, jc_S σ0 r.1 σ → Q (.inl none, σ)) : jc_W σ0 K (d + 1) 56 0 [some (.ref 83), some (.ref l1), some (jb_v l2), none, none] [] Q := by
  intro σ s
  unfold fc56 at h
  refine jaL1 (p := 1) rfl jM56 jq56_0 ?_
  obtain ⟨c1, h1⟩ := jo_i h
  refine jc_getI (p := 4) (i := 2) rfl jM56 jq56_1 rfl (s.rc c1).ob jn_3_2 s (jc_rcd c1) (by decide) rfl ?_
  refine jw_if (p := 7) rfl jM56 jq56_4 (jc_lt (s.r _ _) jb_r0) (fun c2 => ?_) (fun c2 => ?_)
  · have h2 := jo_p c2 h1
    refine jw_iconst (p := 59) rfl jM56 jq56_58 ?_
    refine jiS3 (p := 60) rfl jM56 jq56_59 ?_
    exact jd56_60 jo_N hl2 (jb_rn rfl) h2 k σ s
  · have h2 := jo_n c2 h1
    refine jaL1 (p := 8) rfl jM56 jq56_7 ?_
    refine jc_getI (p := 11) (i := 2) rfl jM56 jq56_8 rfl (s.rc c1).ob jn_3_2 s (jc_rcd c1) (by decide) rfl ?_
    refine jw_iconst (p := 12) rfl jM56 jq56_11 ?_
    refine jw_ic (p := 15) rfl jM56 jq56_12 (jc_ge (s.r _ _) (jb_rn rfl)) (fun c3 => ?_) (fun c3 => ?_)
    · have h3 := jo_p c3 h2
      refine jw_iconst (p := 59) rfl jM56 jq56_58 ?_
      refine jiS3 (p := 60) rfl jM56 jq56_59 ?_
      exact jd56_60 jo_N hl2 (jb_rn rfl) h3 k σ s
    · have h3 := jo_n c3 h2
      refine jaL1 (p := 16) rfl jM56 jq56_15 ?_
      refine jc_getI (p := 19) (i := 1) rfl jM56 jq56_16 rfl (s.rc c1).ob jn_3_1 s (jc_rcd c1) (by decide) rfl ?_
      refine jw_iconst (p := 20) rfl jM56 jq56_19 ?_
      refine jw_ic (p := 23) rfl jM56 jq56_20 (jc_eq (s.r _ _) (jb_rn rfl)) (fun c4 => ?_) (fun c4 => ?_)
      · have h4 := jo_p c4 h3
        refine jw_iconst (p := 32) rfl jM56 jq56_31 ?_
        refine jw_goto jM56 jq56_32 ?_
        refine jiS3 (p := 37) rfl jM56 jq56_36 ?_
        refine jaL0 (p := 38) rfl jM56 jq56_37 ?_
        refine jw_getP (p := 41) (i := 4) (q := 57) rfl jM56 jq56_38 rfl (jo_83 s.1) je_5_4 (jp_83_4 s.1) ?_
        refine jw_getP (p := 44) (i := 1) (q := 59) rfl jM56 jq56_41 rfl (jo_57 s.1) je_6_1 (jp_57_1 s.1) ?_
        refine jaL1 (p := 45) rfl jM56 jq56_44 ?_
        refine jc_getI (p := 48) (i := 2) rfl jM56 jq56_45 rfl (s.rc c1).ob jn_3_2 s (jc_rcd c1) (by decide) rfl ?_
        refine jiL3 (p := 49) rfl jM56 jq56_48 ?_
        refine jw_if (p := 52) rfl jM56 jq56_49 (jc_eq (jb_rn rfl) jb_r0) (fun z => absurd z (by decide)) (fun _ => ?_)
        refine jw_iconst (p := 53) rfl jM56 jq56_52 ?_
        refine jw_goto jM56 jq56_53 ?_
        obtain ⟨c5, h5⟩ := jo_i h4
        refine jc_iast (p := 58) rfl jM56 jq56_57 (ja_59 s.1) c5.1 c5.2 s (by decide) (jb_rn rfl) ?_
        intro σ6 s6
        refine jw_iconst (p := 59) rfl jM56 jq56_58 ?_
        refine jiS3 (p := 60) rfl jM56 jq56_59 ?_
        exact jd56_60 jo_N hl2 (jb_rn rfl) h5 k σ6 s6
      · have h4 := jo_n c4 h3
        refine jaL1 (p := 24) rfl jM56 jq56_23 ?_
        refine jc_getI (p := 27) (i := 1) rfl jM56 jq56_24 rfl (s.rc c1).ob jn_3_1 s (jc_rcd c1) (by decide) rfl ?_
        refine jw_iconst (p := 28) rfl jM56 jq56_27 ?_
        refine jw_ic (p := 31) rfl jM56 jq56_28 (jc_ne (s.r _ _) (jb_rn rfl)) (fun c7 => ?_) (fun c7 => ?_)
        · have h7 := jo_n c7 h4
          refine jw_iconst (p := 36) rfl jM56 jq56_35 ?_
          refine jiS3 (p := 37) rfl jM56 jq56_36 ?_
          refine jaL0 (p := 38) rfl jM56 jq56_37 ?_
          refine jw_getP (p := 41) (i := 4) (q := 57) rfl jM56 jq56_38 rfl (jo_83 s.1) je_5_4 (jp_83_4 s.1) ?_
          refine jw_getP (p := 44) (i := 1) (q := 59) rfl jM56 jq56_41 rfl (jo_57 s.1) je_6_1 (jp_57_1 s.1) ?_
          refine jaL1 (p := 45) rfl jM56 jq56_44 ?_
          refine jc_getI (p := 48) (i := 2) rfl jM56 jq56_45 rfl (s.rc c1).ob jn_3_2 s (jc_rcd c1) (by decide) rfl ?_
          refine jiL3 (p := 49) rfl jM56 jq56_48 ?_
          refine jw_if (p := 52) rfl jM56 jq56_49 (jc_eq (jb_rn rfl) jb_r0) (fun _ => ?_) (fun z => absurd (by decide) z)
          refine jiL2 (p := 57) rfl jM56 jq56_56 ?_
          obtain ⟨c8, h8⟩ := jo_i h7
          refine jc_iast (p := 58) rfl jM56 jq56_57 (ja_59 s.1) c8.1 c8.2 s (by decide) hl2 ?_
          intro σ9 s9
          refine jw_iconst (p := 59) rfl jM56 jq56_58 ?_
          refine jiS3 (p := 60) rfl jM56 jq56_59 ?_
          exact jd56_60 jo_N hl2 (jb_rn rfl) h8 k σ9 s9
        · have h7 := jo_p (Decidable.byContradiction c7) h4
          refine jw_iconst (p := 32) rfl jM56 jq56_31 ?_
          refine jw_goto jM56 jq56_32 ?_
          refine jiS3 (p := 37) rfl jM56 jq56_36 ?_
          refine jaL0 (p := 38) rfl jM56 jq56_37 ?_
          refine jw_getP (p := 41) (i := 4) (q := 57) rfl jM56 jq56_38 rfl (jo_83 s.1) je_5_4 (jp_83_4 s.1) ?_
          refine jw_getP (p := 44) (i := 1) (q := 59) rfl jM56 jq56_41 rfl (jo_57 s.1) je_6_1 (jp_57_1 s.1) ?_
          refine jaL1 (p := 45) rfl jM56 jq56_44 ?_
          refine jc_getI (p := 48) (i := 2) rfl jM56 jq56_45 rfl (s.rc c1).ob jn_3_2 s (jc_rcd c1) (by decide) rfl ?_
          refine jiL3 (p := 49) rfl jM56 jq56_48 ?_
          refine jw_if (p := 52) rfl jM56 jq56_49 (jc_eq (jb_rn rfl) jb_r0) (fun z => absurd z (by decide)) (fun _ => ?_)
          refine jw_iconst (p := 53) rfl jM56 jq56_52 ?_
          refine jw_goto jM56 jq56_53 ?_
          obtain ⟨c10, h10⟩ := jo_i h7
          refine jc_iast (p := 58) rfl jM56 jq56_57 (ja_59 s.1) c10.1 c10.2 s (by decide) (jb_rn rfl) ?_
          intro σ11 s11
          refine jw_iconst (p := 59) rfl jM56 jq56_58 ?_
          refine jiS3 (p := 60) rfl jM56 jq56_59 ?_
          exact jd56_60 jo_N hl2 (jb_rn rfl) h10 k σ11 s11
-- 63 PageLoom$Transactions.finish need 0
def fc63_53 : Nat → jc_K → Int → Int → Option (jc_K × Int)
  | 0, _, _, _ => none
  | m + 1, K, l1, l2 => if 32 ≤ l2 then (some (K, 0)) else (if 0 ≤ l2 ∧ l2 < 32 then if jc_i K 62 l2 = l1 then (if -2147483648 ≤ (l2 + 1) ∧ (l2 + 1) < 2147483648 then fc63_53 m (jc_ui K 62 l2 (-1)) l1 (l2 + 1) else none) else (if -2147483648 ≤ (l2 + 1) ∧ (l2 + 1) < 2147483648 then fc63_53 m K l1 (l2 + 1) else none) else none)
theorem jd63_53 {d : Nat} {σ0 : ib_H} {Q : ib_O → Prop} : ∀ (m : Nat) {K : jc_K} {l1 : Int} {l2 : Int} (hl1 : jb_r l1) (hl2 : jb_r l2) {r : (jc_K × Int)} (h : fc63_53 m K l1 l2 = some r) (k : ∀ σ, jc_S σ0 r.1 σ → Q (.inl none, σ)), jc_W σ0 K d 63 53 [some (.ref 57), some (jb_v l1), some (jb_v l2)] [] Q := by
  intro m
  induction m with
  | zero =>
    intro K l1 l2 hl1 hl2 r h k
    cases h
  | succ m ih =>
    intro K l1 l2 hl1 hl2 r h k σ s
    unfold fc63_53 at h
    refine jiL2 (p := 54) rfl jM63 jq63_53 ?_
    refine jw_bipush (p := 56) rfl jM63 jq63_54 (by decide) ?_
    refine jw_ic (p := 59) rfl jM63 jq63_56 (jc_ge hl2 (jb_rn rfl)) (fun c1 => ?_) (fun c1 => ?_)
    · have h1 := jo_p c1 h
      cases h1
      exact jw_vret jM63 jq63_82 (k σ s)
    · have h1 := jo_n c1 h
      refine jaL0 (p := 60) rfl jM63 jq63_59 ?_
      refine jw_getP (p := 63) (i := 4) (q := 62) rfl jM63 jq63_60 rfl (jo_57 s.1) je_6_4 (jp_57_4 s.1) ?_
      refine jiL2 (p := 64) rfl jM63 jq63_63 ?_
      obtain ⟨c2, h2⟩ := jo_i h1
      refine jc_iald (p := 65) rfl jM63 jq63_64 (ja_62 s.1) c2.1 c2.2 s (by decide) rfl ?_
      refine jiL1 (p := 66) rfl jM63 jq63_65 ?_
      refine jw_ic (p := 69) rfl jM63 jq63_66 (jc_ne (s.r _ _) hl1) (fun c3 => ?_) (fun c3 => ?_)
      · have h3 := jo_n c3 h2
        refine jiI2 (p := 79) rfl jM63 jq63_76 ?_
        refine jw_goto jM63 jq63_79 ?_
        obtain ⟨c4, h4⟩ := jo_i h3
        exact ih hl1 c4 h4 k σ s
      · have h3 := jo_p (Decidable.byContradiction c3) h2
        refine jaL0 (p := 70) rfl jM63 jq63_69 ?_
        refine jw_getP (p := 73) (i := 4) (q := 62) rfl jM63 jq63_70 rfl (jo_57 s.1) je_6_4 (jp_57_4 s.1) ?_
        refine jiL2 (p := 74) rfl jM63 jq63_73 ?_
        refine jw_iconst (p := 75) rfl jM63 jq63_74 ?_
        refine jc_iast (p := 76) rfl jM63 jq63_75 (ja_62 s.1) c2.1 c2.2 s (by decide) (jb_rn rfl) ?_
        intro σ5 s5
        refine jiI2 (p := 79) rfl jM63 jq63_76 ?_
        refine jw_goto jM63 jq63_79 ?_
        obtain ⟨c6, h6⟩ := jo_i h3
        exact ih hl1 c6 h6 k σ5 s5
def fc63_23 : Nat → jc_K → Int → Int → Option (jc_K × Int)
  | 0, _, _, _ => none
  | m + 1, K, l1, l2 => if 4 ≤ l2 then (fc63_53 jo_N K l1 0) else (if 0 ≤ l2 ∧ l2 < 4 then if jc_i K 61 l2 = l1 then (if -2147483648 ≤ (l2 + 1) ∧ (l2 + 1) < 2147483648 then fc63_23 m (jc_ui K 61 l2 (-1)) l1 (l2 + 1) else none) else (if -2147483648 ≤ (l2 + 1) ∧ (l2 + 1) < 2147483648 then fc63_23 m K l1 (l2 + 1) else none) else none)
theorem jd63_23 {d : Nat} {σ0 : ib_H} {Q : ib_O → Prop} : ∀ (m : Nat) {K : jc_K} {l1 : Int} {l2 : Int} (hl1 : jb_r l1) (hl2 : jb_r l2) {r : (jc_K × Int)} (h : fc63_23 m K l1 l2 = some r) (k : ∀ σ, jc_S σ0 r.1 σ → Q (.inl none, σ)), jc_W σ0 K d 63 23 [some (.ref 57), some (jb_v l1), some (jb_v l2)] [] Q := by
  intro m
  induction m with
  | zero =>
    intro K l1 l2 hl1 hl2 r h k
    cases h
  | succ m ih =>
    intro K l1 l2 hl1 hl2 r h k σ s
    unfold fc63_23 at h
    refine jiL2 (p := 24) rfl jM63 jq63_23 ?_
    refine jw_iconst (p := 25) rfl jM63 jq63_24 ?_
    refine jw_ic (p := 28) rfl jM63 jq63_25 (jc_ge hl2 (jb_rn rfl)) (fun c1 => ?_) (fun c1 => ?_)
    · have h1 := jo_p c1 h
      refine jw_iconst (p := 52) rfl jM63 jq63_51 ?_
      refine jiS2 (p := 53) rfl jM63 jq63_52 ?_
      exact jd63_53 jo_N hl1 (jb_rn rfl) h1 k σ s
    · have h1 := jo_n c1 h
      refine jaL0 (p := 29) rfl jM63 jq63_28 ?_
      refine jw_getP (p := 32) (i := 3) (q := 61) rfl jM63 jq63_29 rfl (jo_57 s.1) je_6_3 (jp_57_3 s.1) ?_
      refine jiL2 (p := 33) rfl jM63 jq63_32 ?_
      obtain ⟨c2, h2⟩ := jo_i h1
      refine jc_iald (p := 34) rfl jM63 jq63_33 (ja_61 s.1) c2.1 c2.2 s (by decide) rfl ?_
      refine jiL1 (p := 35) rfl jM63 jq63_34 ?_
      refine jw_ic (p := 38) rfl jM63 jq63_35 (jc_ne (s.r _ _) hl1) (fun c3 => ?_) (fun c3 => ?_)
      · have h3 := jo_n c3 h2
        refine jiI2 (p := 48) rfl jM63 jq63_45 ?_
        refine jw_goto jM63 jq63_48 ?_
        obtain ⟨c4, h4⟩ := jo_i h3
        exact ih hl1 c4 h4 k σ s
      · have h3 := jo_p (Decidable.byContradiction c3) h2
        refine jaL0 (p := 39) rfl jM63 jq63_38 ?_
        refine jw_getP (p := 42) (i := 3) (q := 61) rfl jM63 jq63_39 rfl (jo_57 s.1) je_6_3 (jp_57_3 s.1) ?_
        refine jiL2 (p := 43) rfl jM63 jq63_42 ?_
        refine jw_iconst (p := 44) rfl jM63 jq63_43 ?_
        refine jc_iast (p := 45) rfl jM63 jq63_44 (ja_61 s.1) c2.1 c2.2 s (by decide) (jb_rn rfl) ?_
        intro σ5 s5
        refine jiI2 (p := 48) rfl jM63 jq63_45 ?_
        refine jw_goto jM63 jq63_48 ?_
        obtain ⟨c6, h6⟩ := jo_i h3
        exact ih hl1 c6 h6 k σ5 s5
def fc63 (K : jc_K) (l1 : Int) : Option (jc_K × Int) := if 0 ≤ l1 ∧ l1 < 4 then fc63_23 jo_N (jc_ui (jc_ui (jc_ui K 58 l1 0) 59 l1 0) 61 l1 (-1)) l1 0 else none
theorem jd63 {d : Nat} {σ0 : ib_H} {Q : ib_O → Prop} {K : jc_K} {l1 : Int} (hl1 : jb_r l1) {r : (jc_K × Int)} (h : fc63 K l1 = some r) (k : ∀ σ, jc_S σ0 r.1 σ → Q (.inl none, σ)) : jc_W σ0 K d 63 0 [some (.ref 57), some (jb_v l1), none] [] Q := by
  intro σ s
  unfold fc63 at h
  refine jaL0 (p := 1) rfl jM63 jq63_0 ?_
  refine jw_getP (p := 4) (i := 0) (q := 58) rfl jM63 jq63_1 rfl (jo_57 s.1) je_6_0 (jp_57_0 s.1) ?_
  refine jiL1 (p := 5) rfl jM63 jq63_4 ?_
  refine jw_iconst (p := 6) rfl jM63 jq63_5 ?_
  obtain ⟨c1, h1⟩ := jo_i h
  refine jc_bast (p := 7) rfl jM63 jq63_6 (ja_58 s.1) c1.1 c1.2 (Or.inl rfl) s (by decide) ?_
  intro σ2 s2
  refine jaL0 (p := 8) rfl jM63 jq63_7 ?_
  refine jw_getP (p := 11) (i := 1) (q := 59) rfl jM63 jq63_8 rfl (jo_57 s2.1) je_6_1 (jp_57_1 s2.1) ?_
  refine jiL1 (p := 12) rfl jM63 jq63_11 ?_
  refine jw_iconst (p := 13) rfl jM63 jq63_12 ?_
  refine jc_iast (p := 14) rfl jM63 jq63_13 (ja_59 s2.1) c1.1 c1.2 s2 (by decide) (jb_rn rfl) ?_
  intro σ3 s3
  refine jaL0 (p := 15) rfl jM63 jq63_14 ?_
  refine jw_getP (p := 18) (i := 3) (q := 61) rfl jM63 jq63_15 rfl (jo_57 s3.1) je_6_3 (jp_57_3 s3.1) ?_
  refine jiL1 (p := 19) rfl jM63 jq63_18 ?_
  refine jw_iconst (p := 20) rfl jM63 jq63_19 ?_
  refine jc_iast (p := 21) rfl jM63 jq63_20 (ja_61 s3.1) c1.1 c1.2 s3 (by decide) (jb_rn rfl) ?_
  intro σ4 s4
  refine jw_iconst (p := 22) rfl jM63 jq63_21 ?_
  refine jiS2 (p := 23) rfl jM63 jq63_22 ?_
  exact jd63_23 jo_N hl1 (jb_rn rfl) h1 k σ4 s4
-- 64 PageLoom$Transactions.clear need 1
def fc64_2 : Nat → jc_K → Int → Option (jc_K × Int)
  | 0, _, _ => none
  | m + 1, K, l1 => if 4 ≤ l1 then (some (K, 0)) else ((fc63 K l1).bind fun x2 => if -2147483648 ≤ (l1 + 1) ∧ (l1 + 1) < 2147483648 then fc64_2 m (x2.1) (l1 + 1) else none)
theorem jd64_2 {d : Nat} {σ0 : ib_H} {Q : ib_O → Prop} : ∀ (m : Nat) {K : jc_K} {l1 : Int} (hl1 : jb_r l1) {r : (jc_K × Int)} (h : fc64_2 m K l1 = some r) (k : ∀ σ, jc_S σ0 r.1 σ → Q (.inl none, σ)), jc_W σ0 K (d + 1) 64 2 [some (.ref 57), some (jb_v l1)] [] Q := by
  intro m
  induction m with
  | zero =>
    intro K l1 hl1 r h k
    cases h
  | succ m ih =>
    intro K l1 hl1 r h k σ s
    unfold fc64_2 at h
    refine jiL1 (p := 3) rfl jM64 jq64_2 ?_
    refine jw_iconst (p := 4) rfl jM64 jq64_3 ?_
    refine jw_ic (p := 7) rfl jM64 jq64_4 (jc_ge hl1 (jb_rn rfl)) (fun c1 => ?_) (fun c1 => ?_)
    · have h1 := jo_p c1 h
      cases h1
      exact jw_vret jM64 jq64_18 (k σ s)
    · have h1 := jo_n c1 h
      refine jaL0 (p := 8) rfl jM64 jq64_7 ?_
      refine jiL1 (p := 9) rfl jM64 jq64_8 ?_
      refine jw_callV [(jb_v l1)] jM64 jq64_9 rfl rfl (jo_57 s.1) rfl jM63 rfl rfl ?_
      obtain ⟨x2, b3, h3⟩ := jo_b h1
      refine jd63 hl1 b3 (fun σ2 s2 => ?_) σ s
      show jb_w (d + 1) 64 12 [some (.ref 57), some (jb_v l1)] [] σ2 Q
      refine jiI1 (p := 15) rfl jM64 jq64_12 ?_
      refine jw_goto jM64 jq64_15 ?_
      obtain ⟨c4, h4⟩ := jo_i h3
      exact ih c4 h4 k σ2 s2
def fc64 (K : jc_K) : Option (jc_K × Int) := fc64_2 jo_N K 0
theorem jd64 {d : Nat} {σ0 : ib_H} {Q : ib_O → Prop} {K : jc_K} {r : (jc_K × Int)} (h : fc64 K  = some r) (k : ∀ σ, jc_S σ0 r.1 σ → Q (.inl none, σ)) : jc_W σ0 K (d + 1) 64 0 [some (.ref 57), none] [] Q := by
  intro σ s
  unfold fc64 at h
  refine jw_iconst (p := 1) rfl jM64 jq64_0 ?_
  refine jiS1 (p := 2) rfl jM64 jq64_1 ?_
  exact jd64_2 jo_N (jb_rn rfl) h k σ s
-- 53 PageLoom$Recovery.readLog need 2
def fc53_61 : Nat → jc_K → Int → Nat → Int → Option (jc_K × Int)
  | 0, _, _, _, _ => none
  | m + 1, K, l1, l2, l3 => if jc_i K 63 4 < l3 then (some (K, 0)) else ((fc19 K l3).bind fun x2 => if x2.2 = 0 then (if -2147483648 ≤ (l3 + 1) ∧ (l3 + 1) < 2147483648 then fc53_61 m (x2.1) l1 l2 (l3 + 1) else none) else ((fc56 (x2.1) (x2.2) l3).bind fun x6 => if -2147483648 ≤ (l3 + 1) ∧ (l3 + 1) < 2147483648 then fc53_61 m (jc_ui (x6.1) 85 0 (jb_m ((jc_i (x6.1) 85 0) + 1))) l1 l2 (l3 + 1) else none))
theorem jd53_61 {d : Nat} {σ0 : ib_H} {Q : ib_O → Prop} : ∀ (m : Nat) {K : jc_K} {l1 : Int} {l2 : Nat} {l3 : Int} {o4 : Option Value} (hl1 : jb_r l1) (hl3 : jb_r l3) {r : (jc_K × Int)} (h : fc53_61 m K l1 l2 l3 = some r) (k : ∀ σ, jc_S σ0 r.1 σ → Q (.inl none, σ)), jc_W σ0 K (d + 2) 53 61 [some (.ref 83), some (jb_v l1), some (.ref l2), some (jb_v l3), o4] [] Q := by
  intro m
  induction m with
  | zero =>
    intro K l1 l2 l3 o4 hl1 hl3 r h k
    cases h
  | succ m ih =>
    intro K l1 l2 l3 o4 hl1 hl3 r h k σ s
    unfold fc53_61 at h
    refine jiL3 (p := 62) rfl jM53 jq53_61 ?_
    refine jaL0 (p := 63) rfl jM53 jq53_62 ?_
    refine jw_getP (p := 66) (i := 1) (q := 63) rfl jM53 jq53_63 rfl (jo_83 s.1) je_5_1 (jp_83_1 s.1) ?_
    refine jc_getI (p := 69) (i := 4) rfl jM53 jq53_66 rfl (jo_63 s.1) jn_2_4 s (by decide) (by decide) rfl ?_
    refine jw_ic (p := 72) rfl jM53 jq53_69 (jc_gt hl3 (s.r _ _)) (fun c1 => ?_) (fun c1 => ?_)
    · have h1 := jo_p c1 h
      cases h1
      exact jw_vret jM53 jq53_110 (k σ s)
    · have h1 := jo_n c1 h
      refine jaL0 (p := 73) rfl jM53 jq53_72 ?_
      refine jw_getP (p := 76) (i := 1) (q := 63) rfl jM53 jq53_73 rfl (jo_83 s.1) je_5_1 (jp_83_1 s.1) ?_
      refine jiL3 (p := 77) rfl jM53 jq53_76 ?_
      refine jw_callV [(jb_v l3)] jM53 jq53_77 rfl rfl (jo_63 s.1) rfl jM19 rfl rfl ?_
      obtain ⟨x2, b3, h3⟩ := jo_b h1
      refine jd19 hl3 b3 (fun σ2 s2 => ?_) σ s
      show jb_w (d + 2) 53 80 [some (.ref 83), some (jb_v l1), some (.ref l2), some (jb_v l3), o4] [(.ref (x2.2))] σ2 Q
      refine jaS4 (p := 82) rfl jM53 jq53_80 ?_
      refine jaL4 (p := 84) rfl jM53 jq53_82 ?_
      refine jw_ifnull (p := 87) rfl jM53 jq53_84 (fun c4 => ?_) (fun c4 => ?_)
      · have h4 := jo_p c4 h3
        refine jiI3 (p := 107) rfl jM53 jq53_104 ?_
        refine jw_goto jM53 jq53_107 ?_
        obtain ⟨c5, h5⟩ := jo_i h4
        exact ih hl1 c5 h5 k σ2 s2
      · have h4 := jo_n c4 h3
        refine jaL0 (p := 88) rfl jM53 jq53_87 ?_
        refine jaL4 (p := 90) rfl jM53 jq53_88 ?_
        refine jiL3 (p := 91) rfl jM53 jq53_90 ?_
        refine jw_callV [(.ref (x2.2)), (jb_v l3)] jM53 jq53_91 rfl rfl (jo_83 s2.1) rfl jM56 rfl rfl ?_
        obtain ⟨x6, b7, h7⟩ := jo_b h4
        refine jd56 hl3 b7 (fun σ6 s6 => ?_) σ2 s2
        show jb_w (d + 2) 53 94 [some (.ref 83), some (jb_v l1), some (.ref l2), some (jb_v l3), some (.ref (x2.2))] [] σ6 Q
        refine jaL0 (p := 95) rfl jM53 jq53_94 ?_
        refine jw_getP (p := 98) (i := 6) (q := 85) rfl jM53 jq53_95 rfl (jo_83 s6.1) je_5_6 (jp_83_6 s6.1) ?_
        refine jw_iconst (p := 99) rfl jM53 jq53_98 ?_
        refine jw_dup2 (p := 100) rfl jM53 jq53_99 ?_
        refine jc_iald (p := 101) rfl jM53 jq53_100 (ja_85 s6.1) (by decide) (by decide) s6 (by decide) rfl ?_
        refine jw_iconst (p := 102) rfl jM53 jq53_101 ?_
        refine jw_iadd (p := 103) rfl jM53 jq53_102 ?_
        refine jc_iasM (p := 104) rfl jM53 jq53_103 (ja_85 s6.1) (by decide) (by decide) s6 (by decide) ?_
        intro σ8 s8
        refine jiI3 (p := 107) rfl jM53 jq53_104 ?_
        refine jw_goto jM53 jq53_107 ?_
        obtain ⟨c9, h9⟩ := jo_i h7
        exact ih hl1 c9 h9 k σ8 s8
def fc53_2 : Nat → jc_K → Int → Option (jc_K × Int)
  | 0, _, _ => none
  | m + 1, K, l1 => if 24 ≤ l1 then ((fc64 K ).bind fun x2 => (fc54 (x2.1) ).bind fun x4 => (fc19 (x4.1) (x4.2)).bind fun x6 => if x6.2 = 0 then (fc53_61 jo_N (x6.1) (x4.2) (x6.2) (x4.2)) else (if jc_rc (x6.1) (x6.2) then if jc_i (x6.1) (x6.2) 1 = 4 then ((fc55 (x6.1) (x6.2)).bind fun x11 => fc53_61 jo_N (x11.1) (x4.2) (x6.2) (x4.2)) else (fc53_61 jo_N (x6.1) (x4.2) (x6.2) (x4.2)) else none)) else (if 0 ≤ l1 ∧ l1 < 24 then if -2147483648 ≤ (l1 + 1) ∧ (l1 + 1) < 2147483648 then fc53_2 m (jc_ui K 84 l1 0) (l1 + 1) else none else none)
theorem jd53_2 {d : Nat} {σ0 : ib_H} {Q : ib_O → Prop} : ∀ (m : Nat) {K : jc_K} {l1 : Int} (hl1 : jb_r l1) {r : (jc_K × Int)} (h : fc53_2 m K l1 = some r) (k : ∀ σ, jc_S σ0 r.1 σ → Q (.inl none, σ)), jc_W σ0 K (d + 2) 53 2 [some (.ref 83), some (jb_v l1), none, none, none] [] Q := by
  intro m
  induction m with
  | zero =>
    intro K l1 hl1 r h k
    cases h
  | succ m ih =>
    intro K l1 hl1 r h k σ s
    unfold fc53_2 at h
    refine jiL1 (p := 3) rfl jM53 jq53_2 ?_
    refine jw_bipush (p := 5) rfl jM53 jq53_3 (by decide) ?_
    refine jw_ic (p := 8) rfl jM53 jq53_5 (jc_ge hl1 (jb_rn rfl)) (fun c1 => ?_) (fun c1 => ?_)
    · have h1 := jo_p c1 h
      refine jaL0 (p := 22) rfl jM53 jq53_21 ?_
      refine jw_getP (p := 25) (i := 4) (q := 57) rfl jM53 jq53_22 rfl (jo_83 s.1) je_5_4 (jp_83_4 s.1) ?_
      refine jw_callV [] jM53 jq53_25 rfl rfl (jo_57 s.1) rfl jM64 rfl rfl ?_
      obtain ⟨x2, b3, h3⟩ := jo_b h1
      refine jd64  b3 (fun σ2 s2 => ?_) σ s
      show jb_w (d + 2) 53 28 [some (.ref 83), some (jb_v l1), none, none, none] [] σ2 Q
      refine jaL0 (p := 29) rfl jM53 jq53_28 ?_
      refine jw_callV [] jM53 jq53_29 rfl rfl (jo_83 s2.1) rfl jM54 rfl rfl ?_
      obtain ⟨x4, b5, h5⟩ := jo_b h3
      refine jd54  b5 (fun σ4 s4 r4 => ?_) σ2 s2
      show jb_w (d + 2) 53 32 [some (.ref 83), some (jb_v l1), none, none, none] [(jb_v (x4.2))] σ4 Q
      refine jiS1 (p := 33) rfl jM53 jq53_32 ?_
      refine jaL0 (p := 34) rfl jM53 jq53_33 ?_
      refine jw_getP (p := 37) (i := 1) (q := 63) rfl jM53 jq53_34 rfl (jo_83 s4.1) je_5_1 (jp_83_1 s4.1) ?_
      refine jiL1 (p := 38) rfl jM53 jq53_37 ?_
      refine jw_callV [(jb_v (x4.2))] jM53 jq53_38 rfl rfl (jo_63 s4.1) rfl jM19 rfl rfl ?_
      obtain ⟨x6, b7, h7⟩ := jo_b h5
      refine jd19 r4 b7 (fun σ6 s6 => ?_) σ4 s4
      show jb_w (d + 2) 53 41 [some (.ref 83), some (jb_v (x4.2)), none, none, none] [(.ref (x6.2))] σ6 Q
      refine jaS2 (p := 42) rfl jM53 jq53_41 ?_
      refine jaL2 (p := 43) rfl jM53 jq53_42 ?_
      refine jw_ifnull (p := 46) rfl jM53 jq53_43 (fun c8 => ?_) (fun c8 => ?_)
      · have h8 := jo_p c8 h7
        refine jiL1 (p := 60) rfl jM53 jq53_59 ?_
        refine jiS3 (p := 61) rfl jM53 jq53_60 ?_
        exact jd53_61 jo_N r4 r4 h8 k σ6 s6
      · have h8 := jo_n c8 h7
        refine jaL2 (p := 47) rfl jM53 jq53_46 ?_
        obtain ⟨c9, h9⟩ := jo_i h8
        refine jc_getI (p := 50) (i := 1) rfl jM53 jq53_47 rfl (s6.rc c9).ob jn_3_1 s6 (jc_rcd c9) (by decide) rfl ?_
        refine jw_iconst (p := 51) rfl jM53 jq53_50 ?_
        refine jw_ic (p := 54) rfl jM53 jq53_51 (jc_ne (s6.r _ _) (jb_rn rfl)) (fun c10 => ?_) (fun c10 => ?_)
        · have h10 := jo_n c10 h9
          refine jiL1 (p := 60) rfl jM53 jq53_59 ?_
          refine jiS3 (p := 61) rfl jM53 jq53_60 ?_
          exact jd53_61 jo_N r4 r4 h10 k σ6 s6
        · have h10 := jo_p (Decidable.byContradiction c10) h9
          refine jaL0 (p := 55) rfl jM53 jq53_54 ?_
          refine jaL2 (p := 56) rfl jM53 jq53_55 ?_
          refine jw_callV [(.ref (x6.2))] jM53 jq53_56 rfl rfl (jo_83 s6.1) rfl jM55 rfl rfl ?_
          obtain ⟨x11, b12, h12⟩ := jo_b h10
          refine jd55  b12 (fun σ11 s11 => ?_) σ6 s6
          show jb_w (d + 2) 53 59 [some (.ref 83), some (jb_v (x4.2)), some (.ref (x6.2)), none, none] [] σ11 Q
          refine jiL1 (p := 60) rfl jM53 jq53_59 ?_
          refine jiS3 (p := 61) rfl jM53 jq53_60 ?_
          exact jd53_61 jo_N r4 r4 h12 k σ11 s11
    · have h1 := jo_n c1 h
      refine jaL0 (p := 9) rfl jM53 jq53_8 ?_
      refine jw_getP (p := 12) (i := 5) (q := 84) rfl jM53 jq53_9 rfl (jo_83 s.1) je_5_5 (jp_83_5 s.1) ?_
      refine jiL1 (p := 13) rfl jM53 jq53_12 ?_
      refine jw_iconst (p := 14) rfl jM53 jq53_13 ?_
      obtain ⟨c13, h13⟩ := jo_i h1
      refine jc_iast (p := 15) rfl jM53 jq53_14 (ja_84 s.1) c13.1 c13.2 s (by decide) (jb_rn rfl) ?_
      intro σ14 s14
      refine jiI1 (p := 18) rfl jM53 jq53_15 ?_
      refine jw_goto jM53 jq53_18 ?_
      obtain ⟨c15, h15⟩ := jo_i h13
      exact ih c15 h15 k σ14 s14
def fc53 (K : jc_K) : Option (jc_K × Int) := fc53_2 jo_N K 0
theorem jd53 {d : Nat} {σ0 : ib_H} {Q : ib_O → Prop} {K : jc_K} {r : (jc_K × Int)} (h : fc53 K  = some r) (k : ∀ σ, jc_S σ0 r.1 σ → Q (.inl none, σ)) : jc_W σ0 K (d + 2) 53 0 [some (.ref 83), none, none, none, none] [] Q := by
  intro σ s
  unfold fc53 at h
  refine jw_iconst (p := 1) rfl jM53 jq53_0 ?_
  refine jiS1 (p := 2) rfl jM53 jq53_1 ?_
  exact jd53_2 jo_N (jb_rn rfl) h k σ s
-- 58 PageLoom$Recovery.leastFirst need 0
def fc58_12 : Nat → jc_K → Int → Int → Option (jc_K × Int)
  | 0, _, _, _ => none
  | m + 1, K, l1, l2 => if 24 ≤ l2 then (some (K, l1)) else (if 0 ≤ l2 ∧ l2 < 24 then if jc_i K 84 l2 ≤ 0 then (if -2147483648 ≤ (l2 + 1) ∧ (l2 + 1) < 2147483648 then fc58_12 m K l1 (l2 + 1) else none) else (if l1 ≤ jc_i K 84 l2 then (if -2147483648 ≤ (l2 + 1) ∧ (l2 + 1) < 2147483648 then fc58_12 m K l1 (l2 + 1) else none) else (if -2147483648 ≤ (l2 + 1) ∧ (l2 + 1) < 2147483648 then fc58_12 m K (jc_i K 84 l2) (l2 + 1) else none)) else none)
theorem jd58_12 {d : Nat} {σ0 : ib_H} {Q : ib_O → Prop} : ∀ (m : Nat) {K : jc_K} {l1 : Int} {l2 : Int} (hl1 : jb_r l1) (hl2 : jb_r l2) {r : (jc_K × Int)} (h : fc58_12 m K l1 l2 = some r) (k : ∀ σ, jc_S σ0 r.1 σ → jb_r r.2 → Q (.inl (some (jb_v r.2)), σ)), jc_W σ0 K d 58 12 [some (.ref 83), some (jb_v l1), some (jb_v l2)] [] Q := by
  intro m
  induction m with
  | zero =>
    intro K l1 l2 hl1 hl2 r h k
    cases h
  | succ m ih =>
    intro K l1 l2 hl1 hl2 r h k σ s
    unfold fc58_12 at h
    refine jiL2 (p := 13) rfl jM58 jq58_12 ?_
    refine jw_bipush (p := 15) rfl jM58 jq58_13 (by decide) ?_
    refine jw_ic (p := 18) rfl jM58 jq58_15 (jc_ge hl2 (jb_rn rfl)) (fun c1 => ?_) (fun c1 => ?_)
    · have h1 := jo_p c1 h
      refine jiL1 (p := 51) rfl jM58 jq58_50 ?_
      cases h1
      exact jw_iret jM58 jq58_51 (fun z => absurd z (by decide)) (k σ s hl1)
    · have h1 := jo_n c1 h
      refine jaL0 (p := 19) rfl jM58 jq58_18 ?_
      refine jw_getP (p := 22) (i := 5) (q := 84) rfl jM58 jq58_19 rfl (jo_83 s.1) je_5_5 (jp_83_5 s.1) ?_
      refine jiL2 (p := 23) rfl jM58 jq58_22 ?_
      obtain ⟨c2, h2⟩ := jo_i h1
      refine jc_iald (p := 24) rfl jM58 jq58_23 (ja_84 s.1) c2.1 c2.2 s (by decide) rfl ?_
      refine jw_if (p := 27) rfl jM58 jq58_24 (jc_le (s.r _ _) jb_r0) (fun c3 => ?_) (fun c3 => ?_)
      · have h3 := jo_p c3 h2
        refine jiI2 (p := 47) rfl jM58 jq58_44 ?_
        refine jw_goto jM58 jq58_47 ?_
        obtain ⟨c4, h4⟩ := jo_i h3
        exact ih hl1 c4 h4 k σ s
      · have h3 := jo_n c3 h2
        refine jaL0 (p := 28) rfl jM58 jq58_27 ?_
        refine jw_getP (p := 31) (i := 5) (q := 84) rfl jM58 jq58_28 rfl (jo_83 s.1) je_5_5 (jp_83_5 s.1) ?_
        refine jiL2 (p := 32) rfl jM58 jq58_31 ?_
        refine jc_iald (p := 33) rfl jM58 jq58_32 (ja_84 s.1) c2.1 c2.2 s (by decide) rfl ?_
        refine jiL1 (p := 34) rfl jM58 jq58_33 ?_
        refine jw_ic (p := 37) rfl jM58 jq58_34 (jc_ge (s.r _ _) hl1) (fun c5 => ?_) (fun c5 => ?_)
        · have h5 := jo_p c5 h3
          refine jiI2 (p := 47) rfl jM58 jq58_44 ?_
          refine jw_goto jM58 jq58_47 ?_
          obtain ⟨c6, h6⟩ := jo_i h5
          exact ih hl1 c6 h6 k σ s
        · have h5 := jo_n c5 h3
          refine jaL0 (p := 38) rfl jM58 jq58_37 ?_
          refine jw_getP (p := 41) (i := 5) (q := 84) rfl jM58 jq58_38 rfl (jo_83 s.1) je_5_5 (jp_83_5 s.1) ?_
          refine jiL2 (p := 42) rfl jM58 jq58_41 ?_
          refine jc_iald (p := 43) rfl jM58 jq58_42 (ja_84 s.1) c2.1 c2.2 s (by decide) rfl ?_
          refine jiS1 (p := 44) rfl jM58 jq58_43 ?_
          refine jiI2 (p := 47) rfl jM58 jq58_44 ?_
          refine jw_goto jM58 jq58_47 ?_
          obtain ⟨c7, h7⟩ := jo_i h5
          exact ih (s.r _ _) c7 h7 k σ s
def fc58 (K : jc_K) : Option (jc_K × Int) := if -2147483648 ≤ ((jc_i K 63 4) + 1) ∧ ((jc_i K 63 4) + 1) < 2147483648 then fc58_12 jo_N K ((jc_i K 63 4) + 1) 0 else none
theorem jd58 {d : Nat} {σ0 : ib_H} {Q : ib_O → Prop} {K : jc_K} {r : (jc_K × Int)} (h : fc58 K  = some r) (k : ∀ σ, jc_S σ0 r.1 σ → jb_r r.2 → Q (.inl (some (jb_v r.2)), σ)) : jc_W σ0 K d 58 0 [some (.ref 83), none, none] [] Q := by
  intro σ s
  unfold fc58 at h
  refine jaL0 (p := 1) rfl jM58 jq58_0 ?_
  refine jw_getP (p := 4) (i := 1) (q := 63) rfl jM58 jq58_1 rfl (jo_83 s.1) je_5_1 (jp_83_1 s.1) ?_
  refine jc_getI (p := 7) (i := 4) rfl jM58 jq58_4 rfl (jo_63 s.1) jn_2_4 s (by decide) (by decide) rfl ?_
  refine jw_iconst (p := 8) rfl jM58 jq58_7 ?_
  refine jw_iadd (p := 9) rfl jM58 jq58_8 ?_
  refine jiS1 (p := 10) rfl jM58 jq58_9 ?_
  refine jw_iconst (p := 11) rfl jM58 jq58_10 ?_
  refine jiS2 (p := 12) rfl jM58 jq58_11 ?_
  obtain ⟨c1, h1⟩ := jo_i h
  exact jd58_12 jo_N c1 (jb_rn rfl) h1 k σ s
-- 59 PageLoom$Recovery.redoPage need 3
def fc59 (K : jc_K) (l1 : Nat) (l2 : Int) (l3 : Int) : Option (jc_K × Int) := if jc_rc K l1 then (fc30 K l1 l2).bind fun x2 => if x2.2 < 0 then (some (x2.1, 1)) else (if 24 ≤ x2.2 then (some (x2.1, 1)) else (if 0 ≤ (x2.2) ∧ (x2.2) < 24 then if jc_i (x2.1) 84 (x2.2) = 0 then (some (x2.1, 1)) else (if jc_i (x2.1) 84 (x2.2) ≤ l3 then ((fc5 (x2.1) (x2.2)).bind fun x9 => if x9.2 = 0 then (some (x9.1, 0)) else ((fc3 (x9.1) (x2.2)).bind fun x12 => if x12.2 = 0 then (some (x12.1, 1)) else (if jc_pg (x12.1) (x12.2) then if l3 ≤ jc_i (x12.1) (x12.2) 1 then (some (x12.1, 1)) else ((fc7 (x12.1) (x2.2) l3).bind fun x17 => if jc_rc (x17.1) l1 then (fc31 (x17.1) l1 l2 (x12.2)).bind fun x20 => some (jc_ui (x20.1) 85 1 (jb_m ((jc_i (x20.1) 85 1) + 1)), 1) else none) else none))) else (some (x2.1, 1))) else none)) else none
theorem jd59 {d : Nat} {σ0 : ib_H} {Q : ib_O → Prop} {K : jc_K} {l1 : Nat} {l2 : Int} {l3 : Int} (hl2 : jb_r l2) (hl3 : jb_r l3) {r : (jc_K × Int)} (h : fc59 K l1 l2 l3 = some r) (k : ∀ σ, jc_S σ0 r.1 σ → jb_r r.2 → Q (.inl (some (jb_v r.2)), σ)) : jc_W σ0 K (d + 3) 59 0 [some (.ref 83), some (.ref l1), some (jb_v l2), some (jb_v l3), none, none] [] Q := by
  intro σ s
  unfold fc59 at h
  refine jaL1 (p := 1) rfl jM59 jq59_0 ?_
  refine jiL2 (p := 2) rfl jM59 jq59_1 ?_
  obtain ⟨c1, h1⟩ := jo_i h
  refine jw_callV [(jb_v l2)] jM59 jq59_2 rfl rfl (s.rc c1).ob rfl jM30 rfl rfl ?_
  obtain ⟨x2, b3, h3⟩ := jo_b h1
  refine jd30 hl2 b3 (fun σ2 s2 r2 => ?_) σ s
  show jb_w (d + 3) 59 5 [some (.ref 83), some (.ref l1), some (jb_v l2), some (jb_v l3), none, none] [(jb_v (x2.2))] σ2 Q
  refine jiS4 (p := 7) rfl jM59 jq59_5 ?_
  refine jiL4 (p := 9) rfl jM59 jq59_7 ?_
  refine jw_if (p := 12) rfl jM59 jq59_9 (jc_lt r2 jb_r0) (fun c4 => ?_) (fun c4 => ?_)
  · have h4 := jo_p c4 h3
    refine jw_iconst (p := 41) rfl jM59 jq59_40 ?_
    cases h4
    exact jw_iret jM59 jq59_41 (fun _ => Or.inr rfl) (k σ2 s2 (jb_rn rfl))
  · have h4 := jo_n c4 h3
    refine jiL4 (p := 14) rfl jM59 jq59_12 ?_
    refine jw_bipush (p := 16) rfl jM59 jq59_14 (by decide) ?_
    refine jw_ic (p := 19) rfl jM59 jq59_16 (jc_ge r2 (jb_rn rfl)) (fun c5 => ?_) (fun c5 => ?_)
    · have h5 := jo_p c5 h4
      refine jw_iconst (p := 41) rfl jM59 jq59_40 ?_
      cases h5
      exact jw_iret jM59 jq59_41 (fun _ => Or.inr rfl) (k σ2 s2 (jb_rn rfl))
    · have h5 := jo_n c5 h4
      refine jaL0 (p := 20) rfl jM59 jq59_19 ?_
      refine jw_getP (p := 23) (i := 5) (q := 84) rfl jM59 jq59_20 rfl (jo_83 s2.1) je_5_5 (jp_83_5 s2.1) ?_
      refine jiL4 (p := 25) rfl jM59 jq59_23 ?_
      obtain ⟨c6, h6⟩ := jo_i h5
      refine jc_iald (p := 26) rfl jM59 jq59_25 (ja_84 s2.1) c6.1 c6.2 s2 (by decide) rfl ?_
      refine jw_if (p := 29) rfl jM59 jq59_26 (jc_eq (s2.r _ _) jb_r0) (fun c7 => ?_) (fun c7 => ?_)
      · have h7 := jo_p c7 h6
        refine jw_iconst (p := 41) rfl jM59 jq59_40 ?_
        cases h7
        exact jw_iret jM59 jq59_41 (fun _ => Or.inr rfl) (k σ2 s2 (jb_rn rfl))
      · have h7 := jo_n c7 h6
        refine jaL0 (p := 30) rfl jM59 jq59_29 ?_
        refine jw_getP (p := 33) (i := 5) (q := 84) rfl jM59 jq59_30 rfl (jo_83 s2.1) je_5_5 (jp_83_5 s2.1) ?_
        refine jiL4 (p := 35) rfl jM59 jq59_33 ?_
        refine jc_iald (p := 36) rfl jM59 jq59_35 (ja_84 s2.1) c6.1 c6.2 s2 (by decide) rfl ?_
        refine jiL3 (p := 37) rfl jM59 jq59_36 ?_
        refine jw_ic (p := 40) rfl jM59 jq59_37 (jc_le (s2.r _ _) hl3) (fun c8 => ?_) (fun c8 => ?_)
        · have h8 := jo_p c8 h7
          refine jaL0 (p := 43) rfl jM59 jq59_42 ?_
          refine jw_getP (p := 46) (i := 2) (q := 66) rfl jM59 jq59_43 rfl (jo_83 s2.1) je_5_2 (jp_83_2 s2.1) ?_
          refine jiL4 (p := 48) rfl jM59 jq59_46 ?_
          refine jw_callV [(jb_v (x2.2))] jM59 jq59_48 rfl rfl (jo_66 s2.1) rfl jM5 rfl rfl ?_
          obtain ⟨x9, b10, h10⟩ := jo_b h8
          refine jd5 r2 b10 (fun σ9 s9 r9 => ?_) σ2 s2
          show jb_w (d + 3) 59 51 [some (.ref 83), some (.ref l1), some (jb_v l2), some (jb_v l3), some (jb_v (x2.2)), none] [(jb_v (x9.2))] σ9 Q
          refine jw_if (p := 54) rfl jM59 jq59_51 (jc_ne r9 jb_r0) (fun c11 => ?_) (fun c11 => ?_)
          · have h11 := jo_n c11 h10
            refine jaL0 (p := 57) rfl jM59 jq59_56 ?_
            refine jw_getP (p := 60) (i := 2) (q := 66) rfl jM59 jq59_57 rfl (jo_83 s9.1) je_5_2 (jp_83_2 s9.1) ?_
            refine jiL4 (p := 62) rfl jM59 jq59_60 ?_
            refine jw_callV [(jb_v (x2.2))] jM59 jq59_62 rfl rfl (jo_66 s9.1) rfl jM3 rfl rfl ?_
            obtain ⟨x12, b13, h13⟩ := jo_b h11
            refine jd3 r2 b13 (fun σ12 s12 => ?_) σ9 s9
            show jb_w (d + 3) 59 65 [some (.ref 83), some (.ref l1), some (jb_v l2), some (jb_v l3), some (jb_v (x2.2)), none] [(.ref (x12.2))] σ12 Q
            refine jaS5 (p := 67) rfl jM59 jq59_65 ?_
            refine jaL5 (p := 69) rfl jM59 jq59_67 ?_
            refine jw_ifnull (p := 72) rfl jM59 jq59_69 (fun c14 => ?_) (fun c14 => ?_)
            · have h14 := jo_p c14 h13
              refine jw_iconst (p := 110) rfl jM59 jq59_109 ?_
              cases h14
              exact jw_iret jM59 jq59_110 (fun _ => Or.inr rfl) (k σ12 s12 (jb_rn rfl))
            · have h14 := jo_n c14 h13
              refine jaL5 (p := 74) rfl jM59 jq59_72 ?_
              obtain ⟨c15, h15⟩ := jo_i h14
              refine jc_getI (p := 77) (i := 1) rfl jM59 jq59_74 rfl (s12.pg c15).ob jn_4_1 s12 (jc_pgd c15) (by decide) rfl ?_
              refine jiL3 (p := 78) rfl jM59 jq59_77 ?_
              refine jw_ic (p := 81) rfl jM59 jq59_78 (jc_ge (s12.r _ _) hl3) (fun c16 => ?_) (fun c16 => ?_)
              · have h16 := jo_p c16 h15
                refine jw_iconst (p := 110) rfl jM59 jq59_109 ?_
                cases h16
                exact jw_iret jM59 jq59_110 (fun _ => Or.inr rfl) (k σ12 s12 (jb_rn rfl))
              · have h16 := jo_n c16 h15
                refine jaL0 (p := 82) rfl jM59 jq59_81 ?_
                refine jw_getP (p := 85) (i := 2) (q := 66) rfl jM59 jq59_82 rfl (jo_83 s12.1) je_5_2 (jp_83_2 s12.1) ?_
                refine jiL4 (p := 87) rfl jM59 jq59_85 ?_
                refine jiL3 (p := 88) rfl jM59 jq59_87 ?_
                refine jw_callV [(jb_v (x2.2)), (jb_v l3)] jM59 jq59_88 rfl rfl (jo_66 s12.1) rfl jM7 rfl rfl ?_
                obtain ⟨x17, b18, h18⟩ := jo_b h16
                refine jd7 r2 hl3 b18 (fun σ17 s17 => ?_) σ12 s12
                show jb_w (d + 3) 59 91 [some (.ref 83), some (.ref l1), some (jb_v l2), some (jb_v l3), some (jb_v (x2.2)), some (.ref (x12.2))] [(.ref (x17.2))] σ17 Q
                refine jw_popA (p := 92) rfl jM59 jq59_91 ?_
                refine jaL1 (p := 93) rfl jM59 jq59_92 ?_
                refine jiL2 (p := 94) rfl jM59 jq59_93 ?_
                refine jaL5 (p := 96) rfl jM59 jq59_94 ?_
                obtain ⟨c19, h19⟩ := jo_i h18
                refine jw_callV [(jb_v l2), (.ref (x12.2))] jM59 jq59_96 rfl rfl (s17.rc c19).ob rfl jM31 rfl rfl ?_
                obtain ⟨x20, b21, h21⟩ := jo_b h19
                refine jd31 hl2 b21 (fun σ20 s20 => ?_) σ17 s17
                show jb_w (d + 3) 59 99 [some (.ref 83), some (.ref l1), some (jb_v l2), some (jb_v l3), some (jb_v (x2.2)), some (.ref (x12.2))] [] σ20 Q
                refine jaL0 (p := 100) rfl jM59 jq59_99 ?_
                refine jw_getP (p := 103) (i := 6) (q := 85) rfl jM59 jq59_100 rfl (jo_83 s20.1) je_5_6 (jp_83_6 s20.1) ?_
                refine jw_iconst (p := 104) rfl jM59 jq59_103 ?_
                refine jw_dup2 (p := 105) rfl jM59 jq59_104 ?_
                refine jc_iald (p := 106) rfl jM59 jq59_105 (ja_85 s20.1) (by decide) (by decide) s20 (by decide) rfl ?_
                refine jw_iconst (p := 107) rfl jM59 jq59_106 ?_
                refine jw_iadd (p := 108) rfl jM59 jq59_107 ?_
                refine jc_iasM (p := 109) rfl jM59 jq59_108 (ja_85 s20.1) (by decide) (by decide) s20 (by decide) ?_
                intro σ22 s22
                refine jw_iconst (p := 110) rfl jM59 jq59_109 ?_
                cases h21
                exact jw_iret jM59 jq59_110 (fun _ => Or.inr rfl) (k σ22 s22 (jb_rn rfl))
          · have h11 := jo_p (Decidable.byContradiction c11) h10
            refine jw_iconst (p := 55) rfl jM59 jq59_54 ?_
            cases h11
            exact jw_iret jM59 jq59_55 (fun _ => Or.inl rfl) (k σ9 s9 (jb_rn rfl))
        · have h8 := jo_n c8 h7
          refine jw_iconst (p := 41) rfl jM59 jq59_40 ?_
          cases h8
          exact jw_iret jM59 jq59_41 (fun _ => Or.inr rfl) (k σ2 s2 (jb_rn rfl))
-- 57 PageLoom$Recovery.redo need 4
def fc57_s : Nat → Nat → jc_K → Int → Nat → Int → Option (jc_K × Int)
  | 0, _, _, _, _, _ => none
  | m + 1, t, K, l1, l2, l3 => if t = 5 then (if jc_i K 63 4 < l1 then (some (K, 1)) else ((fc19 K l1).bind fun x2 => fc57_s m 27 (x2.1) l1 (x2.2) 0)) else if t = 27 then (if l2 = 0 then (if -2147483648 ≤ (l1 + 1) ∧ (l1 + 1) < 2147483648 then fc57_s m 5 K (l1 + 1) 0 0 else none) else (if jc_rc K l2 then if jc_i K l2 8 ≤ l3 then (if -2147483648 ≤ (l1 + 1) ∧ (l1 + 1) < 2147483648 then fc57_s m 5 K (l1 + 1) 0 0 else none) else ((fc59 K l2 l3 l1).bind fun x9 => if x9.2 = 0 then (some (x9.1, 0)) else (if -2147483648 ≤ (l3 + 1) ∧ (l3 + 1) < 2147483648 then fc57_s m 27 (x9.1) l1 l2 (l3 + 1) else none)) else none)) else none
theorem jd57_s {d : Nat} {σ0 : ib_H} {Q : ib_O → Prop} : ∀ (m : Nat), (∀ {K : jc_K} {l1 : Int} {o2 : Option Value} {o3 : Option Value} (hl1 : jb_r l1) {r : (jc_K × Int)} (h : fc57_s m 5 K l1 0 0 = some r) (k : ∀ σ, jc_S σ0 r.1 σ → jb_r r.2 → Q (.inl (some (jb_v r.2)), σ)), jc_W σ0 K (d + 4) 57 5 [some (.ref 83), some (jb_v l1), o2, o3] [] Q) ∧ (∀ {K : jc_K} {l1 : Int} {l2 : Nat} {l3 : Int} (hl1 : jb_r l1) (hl3 : jb_r l3) {r : (jc_K × Int)} (h : fc57_s m 27 K l1 l2 l3 = some r) (k : ∀ σ, jc_S σ0 r.1 σ → jb_r r.2 → Q (.inl (some (jb_v r.2)), σ)), jc_W σ0 K (d + 4) 57 27 [some (.ref 83), some (jb_v l1), some (.ref l2), some (jb_v l3)] [] Q) := by
  intro m
  induction m with
  | zero =>
    refine ⟨?_, ?_⟩
    · intro K l1 o2 o3 hl1 r h k
      cases h
    · intro K l1 l2 l3 hl1 hl3 r h k
      cases h
  | succ m ih =>
    refine ⟨?_, ?_⟩
    · intro K l1 o2 o3 hl1 r h k σ s
      unfold fc57_s at h
      have h := jo_p rfl (h)
      refine jiL1 (p := 6) rfl jM57 jq57_5 ?_
      refine jaL0 (p := 7) rfl jM57 jq57_6 ?_
      refine jw_getP (p := 10) (i := 1) (q := 63) rfl jM57 jq57_7 rfl (jo_83 s.1) je_5_1 (jp_83_1 s.1) ?_
      refine jc_getI (p := 13) (i := 4) rfl jM57 jq57_10 rfl (jo_63 s.1) jn_2_4 s (by decide) (by decide) rfl ?_
      refine jw_ic (p := 16) rfl jM57 jq57_13 (jc_gt hl1 (s.r _ _)) (fun c1 => ?_) (fun c1 => ?_)
      · have h1 := jo_p c1 h
        refine jw_iconst (p := 64) rfl jM57 jq57_63 ?_
        cases h1
        exact jw_iret jM57 jq57_64 (fun _ => Or.inr rfl) (k σ s (jb_rn rfl))
      · have h1 := jo_n c1 h
        refine jaL0 (p := 17) rfl jM57 jq57_16 ?_
        refine jw_getP (p := 20) (i := 1) (q := 63) rfl jM57 jq57_17 rfl (jo_83 s.1) je_5_1 (jp_83_1 s.1) ?_
        refine jiL1 (p := 21) rfl jM57 jq57_20 ?_
        refine jw_callV [(jb_v l1)] jM57 jq57_21 rfl rfl (jo_63 s.1) rfl jM19 rfl rfl ?_
        obtain ⟨x2, b3, h3⟩ := jo_b h1
        refine jd19 hl1 b3 (fun σ2 s2 => ?_) σ s
        show jb_w (d + 4) 57 24 [some (.ref 83), some (jb_v l1), o2, o3] [(.ref (x2.2))] σ2 Q
        refine jaS2 (p := 25) rfl jM57 jq57_24 ?_
        refine jw_iconst (p := 26) rfl jM57 jq57_25 ?_
        refine jiS3 (p := 27) rfl jM57 jq57_26 ?_
        exact ih.2 hl1 (jb_rn rfl) h3 k σ2 s2
    · intro K l1 l2 l3 hl1 hl3 r h k σ s
      unfold fc57_s at h
      have h := jo_p rfl (jo_n (by decide) (h))
      refine jaL2 (p := 28) rfl jM57 jq57_27 ?_
      refine jw_ifnull (p := 31) rfl jM57 jq57_28 (fun c4 => ?_) (fun c4 => ?_)
      · have h4 := jo_p c4 h
        refine jiI1 (p := 60) rfl jM57 jq57_57 ?_
        refine jw_goto jM57 jq57_60 ?_
        obtain ⟨c5, h5⟩ := jo_i h4
        exact ih.1 c5 h5 k σ s
      · have h4 := jo_n c4 h
        refine jiL3 (p := 32) rfl jM57 jq57_31 ?_
        refine jaL2 (p := 33) rfl jM57 jq57_32 ?_
        obtain ⟨c6, h6⟩ := jo_i h4
        refine jc_getI (p := 36) (i := 8) rfl jM57 jq57_33 rfl (s.rc c6).ob jn_3_8 s (jc_rcd c6) (by decide) rfl ?_
        refine jw_ic (p := 39) rfl jM57 jq57_36 (jc_ge hl3 (s.r _ _)) (fun c7 => ?_) (fun c7 => ?_)
        · have h7 := jo_p c7 h6
          refine jiI1 (p := 60) rfl jM57 jq57_57 ?_
          refine jw_goto jM57 jq57_60 ?_
          obtain ⟨c8, h8⟩ := jo_i h7
          exact ih.1 c8 h8 k σ s
        · have h7 := jo_n c7 h6
          refine jaL0 (p := 40) rfl jM57 jq57_39 ?_
          refine jaL2 (p := 41) rfl jM57 jq57_40 ?_
          refine jiL3 (p := 42) rfl jM57 jq57_41 ?_
          refine jiL1 (p := 43) rfl jM57 jq57_42 ?_
          refine jw_callV [(.ref l2), (jb_v l3), (jb_v l1)] jM57 jq57_43 rfl rfl (jo_83 s.1) rfl jM59 rfl rfl ?_
          obtain ⟨x9, b10, h10⟩ := jo_b h7
          refine jd59 hl3 hl1 b10 (fun σ9 s9 r9 => ?_) σ s
          show jb_w (d + 4) 57 46 [some (.ref 83), some (jb_v l1), some (.ref l2), some (jb_v l3)] [(jb_v (x9.2))] σ9 Q
          refine jw_if (p := 49) rfl jM57 jq57_46 (jc_ne r9 jb_r0) (fun c11 => ?_) (fun c11 => ?_)
          · have h11 := jo_n c11 h10
            refine jiI3 (p := 54) rfl jM57 jq57_51 ?_
            refine jw_goto jM57 jq57_54 ?_
            obtain ⟨c12, h12⟩ := jo_i h11
            exact ih.2 hl1 c12 h12 k σ9 s9
          · have h11 := jo_p (Decidable.byContradiction c11) h10
            refine jw_iconst (p := 50) rfl jM57 jq57_49 ?_
            cases h11
            exact jw_iret jM57 jq57_50 (fun _ => Or.inl rfl) (k σ9 s9 (jb_rn rfl))

def fc57 (K : jc_K) : Option (jc_K × Int) := (fc58 K ).bind fun x1 => fc57_s jo_N 5 (x1.1) (x1.2) 0 0
theorem jd57 {d : Nat} {σ0 : ib_H} {Q : ib_O → Prop} {K : jc_K} {r : (jc_K × Int)} (h : fc57 K  = some r) (k : ∀ σ, jc_S σ0 r.1 σ → jb_r r.2 → Q (.inl (some (jb_v r.2)), σ)) : jc_W σ0 K (d + 4) 57 0 [some (.ref 83), none, none, none] [] Q := by
  intro σ s
  unfold fc57 at h
  refine jaL0 (p := 1) rfl jM57 jq57_0 ?_
  refine jw_callV [] jM57 jq57_1 rfl rfl (jo_83 s.1) rfl jM58 rfl rfl ?_
  obtain ⟨x1, b2, h2⟩ := jo_b h
  refine jd58  b2 (fun σ1 s1 r1 => ?_) σ s
  show jb_w (d + 4) 57 4 [some (.ref 83), none, none, none] [(jb_v (x1.2))] σ1 Q
  refine jiS1 (p := 5) rfl jM57 jq57_4 ?_
  exact (jd57_s jo_N).1 r1 h2 k σ1 s1
-- 80 PageLoom$Tree.perform need 3
def fc80_17 : Nat → jc_K → Int → Nat → Int → Option (jc_K × Int)
  | 0, _, _, _, _ => none
  | m + 1, K, l1, l2, l3 => if jc_rc K l2 then if jc_i K l2 8 ≤ l3 then (some (K, 1)) else ((fc30 K l2 l3).bind fun x3 => (fc5 (x3.1) (x3.2)).bind fun x5 => if x5.2 = 0 then (some (x5.1, 0)) else ((fc7 (x5.1) (x3.2) l1).bind fun x8 => if x8.2 = 0 then (if -2147483648 ≤ (l3 + 1) ∧ (l3 + 1) < 2147483648 then fc80_17 m (x8.1) l1 l2 (l3 + 1) else none) else (if jc_rc (x8.1) l2 then (fc31 (x8.1) l2 l3 (x8.2)).bind fun x13 => if -2147483648 ≤ (l3 + 1) ∧ (l3 + 1) < 2147483648 then fc80_17 m (x13.1) l1 l2 (l3 + 1) else none else none))) else none
theorem jd80_17 {d : Nat} {σ0 : ib_H} {Q : ib_O → Prop} : ∀ (m : Nat) {K : jc_K} {l1 : Int} {l2 : Nat} {l3 : Int} {o4 : Option Value} {o5 : Option Value} (hl1 : jb_r l1) (hl3 : jb_r l3) {r : (jc_K × Int)} (h : fc80_17 m K l1 l2 l3 = some r) (k : ∀ σ, jc_S σ0 r.1 σ → jb_r r.2 → Q (.inl (some (jb_v r.2)), σ)), jc_W σ0 K (d + 3) 80 17 [some (.ref 79), some (jb_v l1), some (.ref l2), some (jb_v l3), o4, o5] [] Q := by
  intro m
  induction m with
  | zero =>
    intro K l1 l2 l3 o4 o5 hl1 hl3 r h k
    cases h
  | succ m ih =>
    intro K l1 l2 l3 o4 o5 hl1 hl3 r h k σ s
    unfold fc80_17 at h
    refine jiL3 (p := 18) rfl jM80 jq80_17 ?_
    refine jaL2 (p := 19) rfl jM80 jq80_18 ?_
    obtain ⟨c1, h1⟩ := jo_i h
    refine jc_getI (p := 22) (i := 8) rfl jM80 jq80_19 rfl (s.rc c1).ob jn_3_8 s (jc_rcd c1) (by decide) rfl ?_
    refine jw_ic (p := 25) rfl jM80 jq80_22 (jc_ge hl3 (s.r _ _)) (fun c2 => ?_) (fun c2 => ?_)
    · have h2 := jo_p c2 h1
      refine jw_iconst (p := 77) rfl jM80 jq80_76 ?_
      cases h2
      exact jw_iret jM80 jq80_77 (fun _ => Or.inr rfl) (k σ s (jb_rn rfl))
    · have h2 := jo_n c2 h1
      refine jaL2 (p := 26) rfl jM80 jq80_25 ?_
      refine jiL3 (p := 27) rfl jM80 jq80_26 ?_
      refine jw_callV [(jb_v l3)] jM80 jq80_27 rfl rfl (s.rc c1).ob rfl jM30 rfl rfl ?_
      obtain ⟨x3, b4, h4⟩ := jo_b h2
      refine jd30 hl3 b4 (fun σ3 s3 r3 => ?_) σ s
      show jb_w (d + 3) 80 30 [some (.ref 79), some (jb_v l1), some (.ref l2), some (jb_v l3), o4, o5] [(jb_v (x3.2))] σ3 Q
      refine jiS4 (p := 32) rfl jM80 jq80_30 ?_
      refine jaL0 (p := 33) rfl jM80 jq80_32 ?_
      refine jw_getP (p := 36) (i := 0) (q := 66) rfl jM80 jq80_33 rfl (jo_79 s3.1) je_7_0 (jp_79_0 s3.1) ?_
      refine jiL4 (p := 38) rfl jM80 jq80_36 ?_
      refine jw_callV [(jb_v (x3.2))] jM80 jq80_38 rfl rfl (jo_66 s3.1) rfl jM5 rfl rfl ?_
      obtain ⟨x5, b6, h6⟩ := jo_b h4
      refine jd5 r3 b6 (fun σ5 s5 r5 => ?_) σ3 s3
      show jb_w (d + 3) 80 41 [some (.ref 79), some (jb_v l1), some (.ref l2), some (jb_v l3), some (jb_v (x3.2)), o5] [(jb_v (x5.2))] σ5 Q
      refine jw_if (p := 44) rfl jM80 jq80_41 (jc_ne r5 jb_r0) (fun c7 => ?_) (fun c7 => ?_)
      · have h7 := jo_n c7 h6
        refine jaL0 (p := 47) rfl jM80 jq80_46 ?_
        refine jw_getP (p := 50) (i := 0) (q := 66) rfl jM80 jq80_47 rfl (jo_79 s5.1) je_7_0 (jp_79_0 s5.1) ?_
        refine jiL4 (p := 52) rfl jM80 jq80_50 ?_
        refine jiL1 (p := 53) rfl jM80 jq80_52 ?_
        refine jw_callV [(jb_v (x3.2)), (jb_v l1)] jM80 jq80_53 rfl rfl (jo_66 s5.1) rfl jM7 rfl rfl ?_
        obtain ⟨x8, b9, h9⟩ := jo_b h7
        refine jd7 r3 hl1 b9 (fun σ8 s8 => ?_) σ5 s5
        show jb_w (d + 3) 80 56 [some (.ref 79), some (jb_v l1), some (.ref l2), some (jb_v l3), some (jb_v (x3.2)), o5] [(.ref (x8.2))] σ8 Q
        refine jaS5 (p := 58) rfl jM80 jq80_56 ?_
        refine jaL5 (p := 60) rfl jM80 jq80_58 ?_
        refine jw_ifnull (p := 63) rfl jM80 jq80_60 (fun c10 => ?_) (fun c10 => ?_)
        · have h10 := jo_p c10 h9
          refine jiI3 (p := 73) rfl jM80 jq80_70 ?_
          refine jw_goto jM80 jq80_73 ?_
          obtain ⟨c11, h11⟩ := jo_i h10
          exact ih hl1 c11 h11 k σ8 s8
        · have h10 := jo_n c10 h9
          refine jaL2 (p := 64) rfl jM80 jq80_63 ?_
          refine jiL3 (p := 65) rfl jM80 jq80_64 ?_
          refine jaL5 (p := 67) rfl jM80 jq80_65 ?_
          obtain ⟨c12, h12⟩ := jo_i h10
          refine jw_callV [(jb_v l3), (.ref (x8.2))] jM80 jq80_67 rfl rfl (s8.rc c12).ob rfl jM31 rfl rfl ?_
          obtain ⟨x13, b14, h14⟩ := jo_b h12
          refine jd31 hl3 b14 (fun σ13 s13 => ?_) σ8 s8
          show jb_w (d + 3) 80 70 [some (.ref 79), some (jb_v l1), some (.ref l2), some (jb_v l3), some (jb_v (x3.2)), some (.ref (x8.2))] [] σ13 Q
          refine jiI3 (p := 73) rfl jM80 jq80_70 ?_
          refine jw_goto jM80 jq80_73 ?_
          obtain ⟨c15, h15⟩ := jo_i h14
          exact ih hl1 c15 h15 k σ13 s13
      · have h7 := jo_p (Decidable.byContradiction c7) h6
        refine jw_iconst (p := 45) rfl jM80 jq80_44 ?_
        cases h7
        exact jw_iret jM80 jq80_45 (fun _ => Or.inl rfl) (k σ5 s5 (jb_rn rfl))
def fc80 (K : jc_K) (l1 : Int) : Option (jc_K × Int) := (fc19 K l1).bind fun x1 => if x1.2 = 0 then (some (x1.1, 0)) else (fc80_17 jo_N (x1.1) l1 (x1.2) 0)
theorem jd80 {d : Nat} {σ0 : ib_H} {Q : ib_O → Prop} {K : jc_K} {l1 : Int} (hl1 : jb_r l1) {r : (jc_K × Int)} (h : fc80 K l1 = some r) (k : ∀ σ, jc_S σ0 r.1 σ → jb_r r.2 → Q (.inl (some (jb_v r.2)), σ)) : jc_W σ0 K (d + 3) 80 0 [some (.ref 79), some (jb_v l1), none, none, none, none] [] Q := by
  intro σ s
  unfold fc80 at h
  refine jaL0 (p := 1) rfl jM80 jq80_0 ?_
  refine jw_getP (p := 4) (i := 1) (q := 63) rfl jM80 jq80_1 rfl (jo_79 s.1) je_7_1 (jp_79_1 s.1) ?_
  refine jiL1 (p := 5) rfl jM80 jq80_4 ?_
  refine jw_callV [(jb_v l1)] jM80 jq80_5 rfl rfl (jo_63 s.1) rfl jM19 rfl rfl ?_
  obtain ⟨x1, b2, h2⟩ := jo_b h
  refine jd19 hl1 b2 (fun σ1 s1 => ?_) σ s
  show jb_w (d + 3) 80 8 [some (.ref 79), some (jb_v l1), none, none, none, none] [(.ref (x1.2))] σ1 Q
  refine jaS2 (p := 9) rfl jM80 jq80_8 ?_
  refine jaL2 (p := 10) rfl jM80 jq80_9 ?_
  refine jw_ifnonnull (p := 13) rfl jM80 jq80_10 (fun c3 => ?_) (fun c3 => ?_)
  · have h3 := jo_n c3 h2
    refine jw_iconst (p := 16) rfl jM80 jq80_15 ?_
    refine jiS3 (p := 17) rfl jM80 jq80_16 ?_
    exact jd80_17 jo_N hl1 (jb_rn rfl) h3 k σ1 s1
  · have h3 := jo_p c3 h2
    refine jw_iconst (p := 14) rfl jM80 jq80_13 ?_
    cases h3
    exact jw_iret jM80 jq80_14 (fun _ => Or.inl rfl) (k σ1 s1 (jb_rn rfl))
-- 84 PageLoom$Tree.tellGo need 2
def fc84 (K : jc_K) (l1 : Nat) (l2 : Int) (l3 : Int) : Option (jc_K × Int) := (fc3 K l3).bind fun x1 => if x1.2 = 0 then (some (x1.1, 0)) else (if jc_rc (x1.1) l1 then (fc27 (x1.1) l1 l2).bind fun x5 => if jc_pg (x5.1) (x5.2) then (fc34 (x5.1) (x5.2) 0).bind fun x8 => if jc_rc (x8.1) l1 then (fc27 (x8.1) l1 l3).bind fun x11 => if jc_pg (x11.1) (x11.2) then (fc35 (x11.1) (x11.2) (x1.2)).bind fun x14 => if jc_pg (x14.1) (x11.2) then (fc48 (x14.1) (x11.2) l2).bind fun x17 => some (x17.1, 0) else none else none else none else none else none)
theorem jd84 {d : Nat} {σ0 : ib_H} {Q : ib_O → Prop} {K : jc_K} {l1 : Nat} {l2 : Int} {l3 : Int} (hl2 : jb_r l2) (hl3 : jb_r l3) {r : (jc_K × Int)} (h : fc84 K l1 l2 l3 = some r) (k : ∀ σ, jc_S σ0 r.1 σ → Q (.inl none, σ)) : jc_W σ0 K (d + 2) 84 0 [some (.ref 79), some (.ref l1), some (jb_v l2), some (jb_v l3), none, none] [] Q := by
  intro σ s
  unfold fc84 at h
  refine jaL0 (p := 1) rfl jM84 jq84_0 ?_
  refine jw_getP (p := 4) (i := 0) (q := 66) rfl jM84 jq84_1 rfl (jo_79 s.1) je_7_0 (jp_79_0 s.1) ?_
  refine jiL3 (p := 5) rfl jM84 jq84_4 ?_
  refine jw_callV [(jb_v l3)] jM84 jq84_5 rfl rfl (jo_66 s.1) rfl jM3 rfl rfl ?_
  obtain ⟨x1, b2, h2⟩ := jo_b h
  refine jd3 hl3 b2 (fun σ1 s1 => ?_) σ s
  show jb_w (d + 2) 84 8 [some (.ref 79), some (.ref l1), some (jb_v l2), some (jb_v l3), none, none] [(.ref (x1.2))] σ1 Q
  refine jaS4 (p := 10) rfl jM84 jq84_8 ?_
  refine jaL4 (p := 12) rfl jM84 jq84_10 ?_
  refine jw_ifnonnull (p := 15) rfl jM84 jq84_12 (fun c3 => ?_) (fun c3 => ?_)
  · have h3 := jo_n c3 h2
    refine jaL1 (p := 17) rfl jM84 jq84_16 ?_
    refine jiL2 (p := 18) rfl jM84 jq84_17 ?_
    obtain ⟨c4, h4⟩ := jo_i h3
    refine jw_callV [(jb_v l2)] jM84 jq84_18 rfl rfl (s1.rc c4).ob rfl jM27 rfl rfl ?_
    obtain ⟨x5, b6, h6⟩ := jo_b h4
    refine jd27 hl2 b6 (fun σ5 s5 => ?_) σ1 s1
    show jb_w (d + 2) 84 21 [some (.ref 79), some (.ref l1), some (jb_v l2), some (jb_v l3), some (.ref (x1.2)), none] [(.ref (x5.2))] σ5 Q
    refine jw_iconst (p := 22) rfl jM84 jq84_21 ?_
    obtain ⟨c7, h7⟩ := jo_i h6
    refine jw_callV [(jb_v 0)] jM84 jq84_22 rfl rfl (s5.pg c7).ob rfl jM34 rfl rfl ?_
    obtain ⟨x8, b9, h9⟩ := jo_b h7
    refine jd34 (jb_rn rfl) b9 (fun σ8 s8 => ?_) σ5 s5
    show jb_w (d + 2) 84 25 [some (.ref 79), some (.ref l1), some (jb_v l2), some (jb_v l3), some (.ref (x1.2)), none] [] σ8 Q
    refine jaL1 (p := 26) rfl jM84 jq84_25 ?_
    refine jiL3 (p := 27) rfl jM84 jq84_26 ?_
    obtain ⟨c10, h10⟩ := jo_i h9
    refine jw_callV [(jb_v l3)] jM84 jq84_27 rfl rfl (s8.rc c10).ob rfl jM27 rfl rfl ?_
    obtain ⟨x11, b12, h12⟩ := jo_b h10
    refine jd27 hl3 b12 (fun σ11 s11 => ?_) σ8 s8
    show jb_w (d + 2) 84 30 [some (.ref 79), some (.ref l1), some (jb_v l2), some (jb_v l3), some (.ref (x1.2)), none] [(.ref (x11.2))] σ11 Q
    refine jaS5 (p := 32) rfl jM84 jq84_30 ?_
    refine jaL5 (p := 34) rfl jM84 jq84_32 ?_
    refine jaL4 (p := 36) rfl jM84 jq84_34 ?_
    obtain ⟨c13, h13⟩ := jo_i h12
    refine jw_callV [(.ref (x1.2))] jM84 jq84_36 rfl rfl (s11.pg c13).ob rfl jM35 rfl rfl ?_
    obtain ⟨x14, b15, h15⟩ := jo_b h13
    refine jd35  b15 (fun σ14 s14 => ?_) σ11 s11
    show jb_w (d + 2) 84 39 [some (.ref 79), some (.ref l1), some (jb_v l2), some (jb_v l3), some (.ref (x1.2)), some (.ref (x11.2))] [] σ14 Q
    refine jaL5 (p := 41) rfl jM84 jq84_39 ?_
    refine jiL2 (p := 42) rfl jM84 jq84_41 ?_
    obtain ⟨c16, h16⟩ := jo_i h15
    refine jw_callV [(jb_v l2)] jM84 jq84_42 rfl rfl (s14.pg c16).ob rfl jM48 rfl rfl ?_
    obtain ⟨x17, b18, h18⟩ := jo_b h16
    refine jd48 hl2 b18 (fun σ17 s17 => ?_) σ14 s14
    show jb_w (d + 2) 84 45 [some (.ref 79), some (.ref l1), some (jb_v l2), some (jb_v l3), some (.ref (x1.2)), some (.ref (x11.2))] [] σ17 Q
    cases h18
    exact jw_vret jM84 jq84_45 (k σ17 s17)
  · have h3 := jo_p c3 h2
    cases h3
    exact jw_vret jM84 jq84_15 (k σ1 s1)
-- 85 PageLoom$Tree.tellTakeOver need 2
def fc85 (K : jc_K) (l1 : Nat) (l2 : Int) : Option (jc_K × Int) := (fc3 K l2).bind fun x1 => if x1.2 = 0 then (some (x1.1, 0)) else (if jc_rc (x1.1) l1 then (fc27 (x1.1) l1 0).bind fun x5 => if jc_pg (x5.1) (x5.2) then (fc35 (x5.1) (x5.2) (x1.2)).bind fun x8 => if jc_rc (x8.1) l1 then (fc27 (x8.1) l1 l2).bind fun x11 => if jc_pg (x11.1) (x11.2) then (fc34 (x11.1) (x11.2) 0).bind fun x14 => some (x14.1, 0) else none else none else none else none)
theorem jd85 {d : Nat} {σ0 : ib_H} {Q : ib_O → Prop} {K : jc_K} {l1 : Nat} {l2 : Int} (hl2 : jb_r l2) {r : (jc_K × Int)} (h : fc85 K l1 l2 = some r) (k : ∀ σ, jc_S σ0 r.1 σ → Q (.inl none, σ)) : jc_W σ0 K (d + 2) 85 0 [some (.ref 79), some (.ref l1), some (jb_v l2), none] [] Q := by
  intro σ s
  unfold fc85 at h
  refine jaL0 (p := 1) rfl jM85 jq85_0 ?_
  refine jw_getP (p := 4) (i := 0) (q := 66) rfl jM85 jq85_1 rfl (jo_79 s.1) je_7_0 (jp_79_0 s.1) ?_
  refine jiL2 (p := 5) rfl jM85 jq85_4 ?_
  refine jw_callV [(jb_v l2)] jM85 jq85_5 rfl rfl (jo_66 s.1) rfl jM3 rfl rfl ?_
  obtain ⟨x1, b2, h2⟩ := jo_b h
  refine jd3 hl2 b2 (fun σ1 s1 => ?_) σ s
  show jb_w (d + 2) 85 8 [some (.ref 79), some (.ref l1), some (jb_v l2), none] [(.ref (x1.2))] σ1 Q
  refine jaS3 (p := 9) rfl jM85 jq85_8 ?_
  refine jaL3 (p := 10) rfl jM85 jq85_9 ?_
  refine jw_ifnonnull (p := 13) rfl jM85 jq85_10 (fun c3 => ?_) (fun c3 => ?_)
  · have h3 := jo_n c3 h2
    refine jaL1 (p := 15) rfl jM85 jq85_14 ?_
    refine jw_iconst (p := 16) rfl jM85 jq85_15 ?_
    obtain ⟨c4, h4⟩ := jo_i h3
    refine jw_callV [(jb_v 0)] jM85 jq85_16 rfl rfl (s1.rc c4).ob rfl jM27 rfl rfl ?_
    obtain ⟨x5, b6, h6⟩ := jo_b h4
    refine jd27 (jb_rn rfl) b6 (fun σ5 s5 => ?_) σ1 s1
    show jb_w (d + 2) 85 19 [some (.ref 79), some (.ref l1), some (jb_v l2), some (.ref (x1.2))] [(.ref (x5.2))] σ5 Q
    refine jaL3 (p := 20) rfl jM85 jq85_19 ?_
    obtain ⟨c7, h7⟩ := jo_i h6
    refine jw_callV [(.ref (x1.2))] jM85 jq85_20 rfl rfl (s5.pg c7).ob rfl jM35 rfl rfl ?_
    obtain ⟨x8, b9, h9⟩ := jo_b h7
    refine jd35  b9 (fun σ8 s8 => ?_) σ5 s5
    show jb_w (d + 2) 85 23 [some (.ref 79), some (.ref l1), some (jb_v l2), some (.ref (x1.2))] [] σ8 Q
    refine jaL1 (p := 24) rfl jM85 jq85_23 ?_
    refine jiL2 (p := 25) rfl jM85 jq85_24 ?_
    obtain ⟨c10, h10⟩ := jo_i h9
    refine jw_callV [(jb_v l2)] jM85 jq85_25 rfl rfl (s8.rc c10).ob rfl jM27 rfl rfl ?_
    obtain ⟨x11, b12, h12⟩ := jo_b h10
    refine jd27 hl2 b12 (fun σ11 s11 => ?_) σ8 s8
    show jb_w (d + 2) 85 28 [some (.ref 79), some (.ref l1), some (jb_v l2), some (.ref (x1.2))] [(.ref (x11.2))] σ11 Q
    refine jw_iconst (p := 29) rfl jM85 jq85_28 ?_
    obtain ⟨c13, h13⟩ := jo_i h12
    refine jw_callV [(jb_v 0)] jM85 jq85_29 rfl rfl (s11.pg c13).ob rfl jM34 rfl rfl ?_
    obtain ⟨x14, b15, h15⟩ := jo_b h13
    refine jd34 (jb_rn rfl) b15 (fun σ14 s14 => ?_) σ11 s11
    show jb_w (d + 2) 85 32 [some (.ref 79), some (.ref l1), some (jb_v l2), some (.ref (x1.2))] [] σ14 Q
    cases h15
    exact jw_vret jM85 jq85_32 (k σ14 s14)
  · have h3 := jo_p c3 h2
    cases h3
    exact jw_vret jM85 jq85_13 (k σ1 s1)
-- 86 PageLoom$Tree.onlyChildOfRoot need 2
def fc86 (K : jc_K) : Option (jc_K × Int) := (fc3 K 0).bind fun x1 => if x1.2 = 0 then (some (x1.1, (-1))) else (if jc_pg (x1.1) (x1.2) then if jc_i (x1.1) (x1.2) 0 = 2 then (if jc_i (x1.1) (x1.2) 2 = 1 then ((fc39 (x1.1) (x1.2) 0).bind fun x7 => some (x7.1, x7.2)) else (some (x1.1, (-1)))) else (some (x1.1, (-1))) else none)
theorem jd86 {d : Nat} {σ0 : ib_H} {Q : ib_O → Prop} {K : jc_K} {r : (jc_K × Int)} (h : fc86 K  = some r) (k : ∀ σ, jc_S σ0 r.1 σ → jb_r r.2 → Q (.inl (some (jb_v r.2)), σ)) : jc_W σ0 K (d + 2) 86 0 [some (.ref 79), none] [] Q := by
  intro σ s
  unfold fc86 at h
  refine jaL0 (p := 1) rfl jM86 jq86_0 ?_
  refine jw_getP (p := 4) (i := 0) (q := 66) rfl jM86 jq86_1 rfl (jo_79 s.1) je_7_0 (jp_79_0 s.1) ?_
  refine jw_iconst (p := 5) rfl jM86 jq86_4 ?_
  refine jw_callV [(jb_v 0)] jM86 jq86_5 rfl rfl (jo_66 s.1) rfl jM3 rfl rfl ?_
  obtain ⟨x1, b2, h2⟩ := jo_b h
  refine jd3 (jb_rn rfl) b2 (fun σ1 s1 => ?_) σ s
  show jb_w (d + 2) 86 8 [some (.ref 79), none] [(.ref (x1.2))] σ1 Q
  refine jaS1 (p := 9) rfl jM86 jq86_8 ?_
  refine jaL1 (p := 10) rfl jM86 jq86_9 ?_
  refine jw_ifnull (p := 13) rfl jM86 jq86_10 (fun c3 => ?_) (fun c3 => ?_)
  · have h3 := jo_p c3 h2
    refine jw_iconst (p := 38) rfl jM86 jq86_37 ?_
    cases h3
    exact jw_iret jM86 jq86_38 (fun z => absurd z (by decide)) (k σ1 s1 (jb_rn rfl))
  · have h3 := jo_n c3 h2
    refine jaL1 (p := 14) rfl jM86 jq86_13 ?_
    obtain ⟨c4, h4⟩ := jo_i h3
    refine jc_getI (p := 17) (i := 0) rfl jM86 jq86_14 rfl (s1.pg c4).ob jn_4_0 s1 (jc_pgd c4) (by decide) rfl ?_
    refine jw_iconst (p := 18) rfl jM86 jq86_17 ?_
    refine jw_ic (p := 21) rfl jM86 jq86_18 (jc_ne (s1.r _ _) (jb_rn rfl)) (fun c5 => ?_) (fun c5 => ?_)
    · have h5 := jo_n c5 h4
      refine jw_iconst (p := 38) rfl jM86 jq86_37 ?_
      cases h5
      exact jw_iret jM86 jq86_38 (fun z => absurd z (by decide)) (k σ1 s1 (jb_rn rfl))
    · have h5 := jo_p (Decidable.byContradiction c5) h4
      refine jaL1 (p := 22) rfl jM86 jq86_21 ?_
      refine jc_getI (p := 25) (i := 2) rfl jM86 jq86_22 rfl (s1.pg c4).ob jn_4_2 s1 (jc_pgd c4) (by decide) rfl ?_
      refine jw_iconst (p := 26) rfl jM86 jq86_25 ?_
      refine jw_ic (p := 29) rfl jM86 jq86_26 (jc_ne (s1.r _ _) (jb_rn rfl)) (fun c6 => ?_) (fun c6 => ?_)
      · have h6 := jo_n c6 h5
        refine jw_iconst (p := 38) rfl jM86 jq86_37 ?_
        cases h6
        exact jw_iret jM86 jq86_38 (fun z => absurd z (by decide)) (k σ1 s1 (jb_rn rfl))
      · have h6 := jo_p (Decidable.byContradiction c6) h5
        refine jaL1 (p := 30) rfl jM86 jq86_29 ?_
        refine jw_iconst (p := 31) rfl jM86 jq86_30 ?_
        refine jw_callV [(jb_v 0)] jM86 jq86_31 rfl rfl (s1.pg c4).ob rfl jM39 rfl rfl ?_
        obtain ⟨x7, b8, h8⟩ := jo_b h6
        refine jd39 (jb_rn rfl) b8 (fun σ7 s7 r7 => ?_) σ1 s1
        show jb_w (d + 2) 86 34 [some (.ref 79), some (.ref (x1.2))] [(jb_v (x7.2))] σ7 Q
        refine jw_goto jM86 jq86_34 ?_
        cases h8
        exact jw_iret jM86 jq86_38 (fun z => absurd z (by decide)) (k σ7 s7 r7)
-- 83 PageLoom$Tree.goes need 4
def fc83_46 : Nat → jc_K → Int → Int → Int → Option (jc_K × Int)
  | 0, _, _, _, _ => none
  | m + 1, K, l1, l2, l3 => if 24 ≤ l3 then (some (K, 1)) else ((fc5 K 0).bind fun x2 => if x2.2 = 0 then (some (x2.1, 0)) else ((fc86 (x2.1) ).bind fun x5 => if x5.2 = (-1) then (some (x5.1, 1)) else ((fc5 (x5.1) (x5.2)).bind fun x8 => if x8.2 = 0 then (some (x8.1, 0)) else ((fc20 (x8.1) 7 (-1)).bind fun x11 => if x11.2 = 0 then (some (x11.1, 0)) else ((fc85 (x11.1) (x11.2) (x5.2)).bind fun x14 => (fc80 (x14.1) (jc_i (x14.1) 63 4)).bind fun x16 => if x16.2 = 0 then (some (x16.1, 0)) else (if -2147483648 ≤ (l3 + 1) ∧ (l3 + 1) < 2147483648 then fc83_46 m (x16.1) l1 l2 (l3 + 1) else none))))))
theorem jd83_46 {d : Nat} {σ0 : ib_H} {Q : ib_O → Prop} : ∀ (m : Nat) {K : jc_K} {l1 : Int} {l2 : Int} {l3 : Int} {o4 : Option Value} {o5 : Option Value} (hl1 : jb_r l1) (hl2 : jb_r l2) (hl3 : jb_r l3) {r : (jc_K × Int)} (h : fc83_46 m K l1 l2 l3 = some r) (k : ∀ σ, jc_S σ0 r.1 σ → jb_r r.2 → Q (.inl (some (jb_v r.2)), σ)), jc_W σ0 K (d + 4) 83 46 [some (.ref 79), some (jb_v l1), some (jb_v l2), some (jb_v l3), o4, o5] [] Q := by
  intro m
  induction m with
  | zero =>
    intro K l1 l2 l3 o4 o5 hl1 hl2 hl3 r h k
    cases h
  | succ m ih =>
    intro K l1 l2 l3 o4 o5 hl1 hl2 hl3 r h k σ s
    unfold fc83_46 at h
    refine jiL3 (p := 47) rfl jM83 jq83_46 ?_
    refine jw_bipush (p := 49) rfl jM83 jq83_47 (by decide) ?_
    refine jw_ic (p := 52) rfl jM83 jq83_49 (jc_ge hl3 (jb_rn rfl)) (fun c1 => ?_) (fun c1 => ?_)
    · have h1 := jo_p c1 h
      refine jw_iconst (p := 143) rfl jM83 jq83_142 ?_
      cases h1
      exact jw_iret jM83 jq83_143 (fun _ => Or.inr rfl) (k σ s (jb_rn rfl))
    · have h1 := jo_n c1 h
      refine jaL0 (p := 53) rfl jM83 jq83_52 ?_
      refine jw_getP (p := 56) (i := 0) (q := 66) rfl jM83 jq83_53 rfl (jo_79 s.1) je_7_0 (jp_79_0 s.1) ?_
      refine jw_iconst (p := 57) rfl jM83 jq83_56 ?_
      refine jw_callV [(jb_v 0)] jM83 jq83_57 rfl rfl (jo_66 s.1) rfl jM5 rfl rfl ?_
      obtain ⟨x2, b3, h3⟩ := jo_b h1
      refine jd5 (jb_rn rfl) b3 (fun σ2 s2 r2 => ?_) σ s
      show jb_w (d + 4) 83 60 [some (.ref 79), some (jb_v l1), some (jb_v l2), some (jb_v l3), o4, o5] [(jb_v (x2.2))] σ2 Q
      refine jw_if (p := 63) rfl jM83 jq83_60 (jc_ne r2 jb_r0) (fun c4 => ?_) (fun c4 => ?_)
      · have h4 := jo_n c4 h3
        refine jaL0 (p := 66) rfl jM83 jq83_65 ?_
        refine jw_callV [] jM83 jq83_66 rfl rfl (jo_79 s2.1) rfl jM86 rfl rfl ?_
        obtain ⟨x5, b6, h6⟩ := jo_b h4
        refine jd86  b6 (fun σ5 s5 r5 => ?_) σ2 s2
        show jb_w (d + 4) 83 69 [some (.ref 79), some (jb_v l1), some (jb_v l2), some (jb_v l3), o4, o5] [(jb_v (x5.2))] σ5 Q
        refine jiS4 (p := 71) rfl jM83 jq83_69 ?_
        refine jiL4 (p := 73) rfl jM83 jq83_71 ?_
        refine jw_iconst (p := 74) rfl jM83 jq83_73 ?_
        refine jw_ic (p := 77) rfl jM83 jq83_74 (jc_ne r5 (jb_rn rfl)) (fun c7 => ?_) (fun c7 => ?_)
        · have h7 := jo_n c7 h6
          refine jaL0 (p := 80) rfl jM83 jq83_79 ?_
          refine jw_getP (p := 83) (i := 0) (q := 66) rfl jM83 jq83_80 rfl (jo_79 s5.1) je_7_0 (jp_79_0 s5.1) ?_
          refine jiL4 (p := 85) rfl jM83 jq83_83 ?_
          refine jw_callV [(jb_v (x5.2))] jM83 jq83_85 rfl rfl (jo_66 s5.1) rfl jM5 rfl rfl ?_
          obtain ⟨x8, b9, h9⟩ := jo_b h7
          refine jd5 r5 b9 (fun σ8 s8 r8 => ?_) σ5 s5
          show jb_w (d + 4) 83 88 [some (.ref 79), some (jb_v l1), some (jb_v l2), some (jb_v l3), some (jb_v (x5.2)), o5] [(jb_v (x8.2))] σ8 Q
          refine jw_if (p := 91) rfl jM83 jq83_88 (jc_ne r8 jb_r0) (fun c10 => ?_) (fun c10 => ?_)
          · have h10 := jo_n c10 h9
            refine jaL0 (p := 94) rfl jM83 jq83_93 ?_
            refine jw_getP (p := 97) (i := 1) (q := 63) rfl jM83 jq83_94 rfl (jo_79 s8.1) je_7_1 (jp_79_1 s8.1) ?_
            refine jw_bipush (p := 99) rfl jM83 jq83_97 (by decide) ?_
            refine jw_iconst (p := 100) rfl jM83 jq83_99 ?_
            refine jw_callV [(jb_v 7), (jb_v (-1))] jM83 jq83_100 rfl rfl (jo_63 s8.1) rfl jM20 rfl rfl ?_
            obtain ⟨x11, b12, h12⟩ := jo_b h10
            refine jd20 (jb_rn rfl) (jb_rn rfl) b12 (fun σ11 s11 => ?_) σ8 s8
            show jb_w (d + 4) 83 103 [some (.ref 79), some (jb_v l1), some (jb_v l2), some (jb_v l3), some (jb_v (x5.2)), o5] [(.ref (x11.2))] σ11 Q
            refine jaS5 (p := 105) rfl jM83 jq83_103 ?_
            refine jaL5 (p := 107) rfl jM83 jq83_105 ?_
            refine jw_ifnonnull (p := 110) rfl jM83 jq83_107 (fun c13 => ?_) (fun c13 => ?_)
            · have h13 := jo_n c13 h12
              refine jaL0 (p := 113) rfl jM83 jq83_112 ?_
              refine jaL5 (p := 115) rfl jM83 jq83_113 ?_
              refine jiL4 (p := 117) rfl jM83 jq83_115 ?_
              refine jw_callV [(.ref (x11.2)), (jb_v (x5.2))] jM83 jq83_117 rfl rfl (jo_79 s11.1) rfl jM85 rfl rfl ?_
              obtain ⟨x14, b15, h15⟩ := jo_b h13
              refine jd85 r5 b15 (fun σ14 s14 => ?_) σ11 s11
              show jb_w (d + 4) 83 120 [some (.ref 79), some (jb_v l1), some (jb_v l2), some (jb_v l3), some (jb_v (x5.2)), some (.ref (x11.2))] [] σ14 Q
              refine jaL0 (p := 121) rfl jM83 jq83_120 ?_
              refine jaL0 (p := 122) rfl jM83 jq83_121 ?_
              refine jw_getP (p := 125) (i := 1) (q := 63) rfl jM83 jq83_122 rfl (jo_79 s14.1) je_7_1 (jp_79_1 s14.1) ?_
              refine jc_getI (p := 128) (i := 4) rfl jM83 jq83_125 rfl (jo_63 s14.1) jn_2_4 s14 (by decide) (by decide) rfl ?_
              refine jw_callV [(jb_v (jc_i (x14.1) 63 4))] jM83 jq83_128 rfl rfl (jo_79 s14.1) rfl jM80 rfl rfl ?_
              obtain ⟨x16, b17, h17⟩ := jo_b h15
              refine jd80 (s14.r _ _) b17 (fun σ16 s16 r16 => ?_) σ14 s14
              show jb_w (d + 4) 83 131 [some (.ref 79), some (jb_v l1), some (jb_v l2), some (jb_v l3), some (jb_v (x5.2)), some (.ref (x11.2))] [(jb_v (x16.2))] σ16 Q
              refine jw_if (p := 134) rfl jM83 jq83_131 (jc_ne r16 jb_r0) (fun c18 => ?_) (fun c18 => ?_)
              · have h18 := jo_n c18 h17
                refine jiI3 (p := 139) rfl jM83 jq83_136 ?_
                refine jw_goto jM83 jq83_139 ?_
                obtain ⟨c19, h19⟩ := jo_i h18
                exact ih hl1 hl2 c19 h19 k σ16 s16
              · have h18 := jo_p (Decidable.byContradiction c18) h17
                refine jw_iconst (p := 135) rfl jM83 jq83_134 ?_
                cases h18
                exact jw_iret jM83 jq83_135 (fun _ => Or.inl rfl) (k σ16 s16 (jb_rn rfl))
            · have h13 := jo_p c13 h12
              refine jw_iconst (p := 111) rfl jM83 jq83_110 ?_
              cases h13
              exact jw_iret jM83 jq83_111 (fun _ => Or.inl rfl) (k σ11 s11 (jb_rn rfl))
          · have h10 := jo_p (Decidable.byContradiction c10) h9
            refine jw_iconst (p := 92) rfl jM83 jq83_91 ?_
            cases h10
            exact jw_iret jM83 jq83_92 (fun _ => Or.inl rfl) (k σ8 s8 (jb_rn rfl))
        · have h7 := jo_p (Decidable.byContradiction c7) h6
          refine jw_iconst (p := 78) rfl jM83 jq83_77 ?_
          cases h7
          exact jw_iret jM83 jq83_78 (fun _ => Or.inr rfl) (k σ5 s5 (jb_rn rfl))
      · have h4 := jo_p (Decidable.byContradiction c4) h3
        refine jw_iconst (p := 64) rfl jM83 jq83_63 ?_
        cases h4
        exact jw_iret jM83 jq83_64 (fun _ => Or.inl rfl) (k σ2 s2 (jb_rn rfl))
def fc83 (K : jc_K) (l1 : Int) (l2 : Int) : Option (jc_K × Int) := if l1 = 0 then (fc83_46 jo_N K l1 l2 0) else ((fc20 K 6 (-1)).bind fun x2 => if x2.2 = 0 then (some (x2.1, 0)) else ((fc84 (x2.1) (x2.2) l1 l2).bind fun x5 => (fc80 (x5.1) (jc_i (x5.1) 63 4)).bind fun x7 => if x7.2 = 0 then (some (x7.1, 0)) else (fc83_46 jo_N (x7.1) l1 l2 0)))
theorem jd83 {d : Nat} {σ0 : ib_H} {Q : ib_O → Prop} {K : jc_K} {l1 : Int} {l2 : Int} (hl1 : jb_r l1) (hl2 : jb_r l2) {r : (jc_K × Int)} (h : fc83 K l1 l2 = some r) (k : ∀ σ, jc_S σ0 r.1 σ → jb_r r.2 → Q (.inl (some (jb_v r.2)), σ)) : jc_W σ0 K (d + 4) 83 0 [some (.ref 79), some (jb_v l1), some (jb_v l2), none, none, none] [] Q := by
  intro σ s
  unfold fc83 at h
  refine jiL1 (p := 1) rfl jM83 jq83_0 ?_
  refine jw_if (p := 4) rfl jM83 jq83_1 (jc_eq hl1 jb_r0) (fun c1 => ?_) (fun c1 => ?_)
  · have h1 := jo_p c1 h
    refine jw_iconst (p := 45) rfl jM83 jq83_44 ?_
    refine jiS3 (p := 46) rfl jM83 jq83_45 ?_
    exact jd83_46 jo_N hl1 hl2 (jb_rn rfl) h1 k σ s
  · have h1 := jo_n c1 h
    refine jaL0 (p := 5) rfl jM83 jq83_4 ?_
    refine jw_getP (p := 8) (i := 1) (q := 63) rfl jM83 jq83_5 rfl (jo_79 s.1) je_7_1 (jp_79_1 s.1) ?_
    refine jw_bipush (p := 10) rfl jM83 jq83_8 (by decide) ?_
    refine jw_iconst (p := 11) rfl jM83 jq83_10 ?_
    refine jw_callV [(jb_v 6), (jb_v (-1))] jM83 jq83_11 rfl rfl (jo_63 s.1) rfl jM20 rfl rfl ?_
    obtain ⟨x2, b3, h3⟩ := jo_b h1
    refine jd20 (jb_rn rfl) (jb_rn rfl) b3 (fun σ2 s2 => ?_) σ s
    show jb_w (d + 4) 83 14 [some (.ref 79), some (jb_v l1), some (jb_v l2), none, none, none] [(.ref (x2.2))] σ2 Q
    refine jaS3 (p := 15) rfl jM83 jq83_14 ?_
    refine jaL3 (p := 16) rfl jM83 jq83_15 ?_
    refine jw_ifnonnull (p := 19) rfl jM83 jq83_16 (fun c4 => ?_) (fun c4 => ?_)
    · have h4 := jo_n c4 h3
      refine jaL0 (p := 22) rfl jM83 jq83_21 ?_
      refine jaL3 (p := 23) rfl jM83 jq83_22 ?_
      refine jiL1 (p := 24) rfl jM83 jq83_23 ?_
      refine jiL2 (p := 25) rfl jM83 jq83_24 ?_
      refine jw_callV [(.ref (x2.2)), (jb_v l1), (jb_v l2)] jM83 jq83_25 rfl rfl (jo_79 s2.1) rfl jM84 rfl rfl ?_
      obtain ⟨x5, b6, h6⟩ := jo_b h4
      refine jd84 hl1 hl2 b6 (fun σ5 s5 => ?_) σ2 s2
      show jb_w (d + 4) 83 28 [some (.ref 79), some (jb_v l1), some (jb_v l2), some (.ref (x2.2)), none, none] [] σ5 Q
      refine jaL0 (p := 29) rfl jM83 jq83_28 ?_
      refine jaL0 (p := 30) rfl jM83 jq83_29 ?_
      refine jw_getP (p := 33) (i := 1) (q := 63) rfl jM83 jq83_30 rfl (jo_79 s5.1) je_7_1 (jp_79_1 s5.1) ?_
      refine jc_getI (p := 36) (i := 4) rfl jM83 jq83_33 rfl (jo_63 s5.1) jn_2_4 s5 (by decide) (by decide) rfl ?_
      refine jw_callV [(jb_v (jc_i (x5.1) 63 4))] jM83 jq83_36 rfl rfl (jo_79 s5.1) rfl jM80 rfl rfl ?_
      obtain ⟨x7, b8, h8⟩ := jo_b h6
      refine jd80 (s5.r _ _) b8 (fun σ7 s7 r7 => ?_) σ5 s5
      show jb_w (d + 4) 83 39 [some (.ref 79), some (jb_v l1), some (jb_v l2), some (.ref (x2.2)), none, none] [(jb_v (x7.2))] σ7 Q
      refine jw_if (p := 42) rfl jM83 jq83_39 (jc_ne r7 jb_r0) (fun c9 => ?_) (fun c9 => ?_)
      · have h9 := jo_n c9 h8
        refine jw_iconst (p := 45) rfl jM83 jq83_44 ?_
        refine jiS3 (p := 46) rfl jM83 jq83_45 ?_
        exact jd83_46 jo_N hl1 hl2 (jb_rn rfl) h9 k σ7 s7
      · have h9 := jo_p (Decidable.byContradiction c9) h8
        refine jw_iconst (p := 43) rfl jM83 jq83_42 ?_
        cases h9
        exact jw_iret jM83 jq83_43 (fun _ => Or.inl rfl) (k σ7 s7 (jb_rn rfl))
    · have h4 := jo_p c4 h3
      refine jw_iconst (p := 20) rfl jM83 jq83_19 ?_
      cases h4
      exact jw_iret jM83 jq83_20 (fun _ => Or.inl rfl) (k σ2 s2 (jb_rn rfl))
-- 87 PageLoom$Tree.lowestUnsettled need 3
def fc87_12 : Nat → jc_K → Int → Option (jc_K × Int)
  | 0, _, _ => none
  | m + 1, K, l1 => if 24 ≤ l1 then (some (K, (-1))) else ((fc3 K l1).bind fun x2 => if x2.2 = 0 then (if -2147483648 ≤ (l1 + 1) ∧ (l1 + 1) < 2147483648 then fc87_12 m (x2.1) (l1 + 1) else none) else (if jc_pg (x2.1) (x2.2) then (fc36 (x2.1) (x2.2)).bind fun x7 => if x7.2 = 0 then (if -2147483648 ≤ (l1 + 1) ∧ (l1 + 1) < 2147483648 then fc87_12 m (x7.1) (l1 + 1) else none) else (some (x7.1, l1)) else none))
theorem jd87_12 {d : Nat} {σ0 : ib_H} {Q : ib_O → Prop} : ∀ (m : Nat) {K : jc_K} {l1 : Int} {o2 : Option Value} (hl1 : jb_r l1) {r : (jc_K × Int)} (h : fc87_12 m K l1 = some r) (k : ∀ σ, jc_S σ0 r.1 σ → jb_r r.2 → Q (.inl (some (jb_v r.2)), σ)), jc_W σ0 K (d + 3) 87 12 [some (.ref 79), some (jb_v l1), o2] [] Q := by
  intro m
  induction m with
  | zero =>
    intro K l1 o2 hl1 r h k
    cases h
  | succ m ih =>
    intro K l1 o2 hl1 r h k σ s
    unfold fc87_12 at h
    refine jiL1 (p := 13) rfl jM87 jq87_12 ?_
    refine jw_bipush (p := 15) rfl jM87 jq87_13 (by decide) ?_
    refine jw_ic (p := 18) rfl jM87 jq87_15 (jc_ge hl1 (jb_rn rfl)) (fun c1 => ?_) (fun c1 => ?_)
    · have h1 := jo_p c1 h
      refine jw_iconst (p := 47) rfl jM87 jq87_46 ?_
      cases h1
      exact jw_iret jM87 jq87_47 (fun z => absurd z (by decide)) (k σ s (jb_rn rfl))
    · have h1 := jo_n c1 h
      refine jaL0 (p := 19) rfl jM87 jq87_18 ?_
      refine jw_getP (p := 22) (i := 0) (q := 66) rfl jM87 jq87_19 rfl (jo_79 s.1) je_7_0 (jp_79_0 s.1) ?_
      refine jiL1 (p := 23) rfl jM87 jq87_22 ?_
      refine jw_callV [(jb_v l1)] jM87 jq87_23 rfl rfl (jo_66 s.1) rfl jM3 rfl rfl ?_
      obtain ⟨x2, b3, h3⟩ := jo_b h1
      refine jd3 hl1 b3 (fun σ2 s2 => ?_) σ s
      show jb_w (d + 3) 87 26 [some (.ref 79), some (jb_v l1), o2] [(.ref (x2.2))] σ2 Q
      refine jaS2 (p := 27) rfl jM87 jq87_26 ?_
      refine jaL2 (p := 28) rfl jM87 jq87_27 ?_
      refine jw_ifnull (p := 31) rfl jM87 jq87_28 (fun c4 => ?_) (fun c4 => ?_)
      · have h4 := jo_p c4 h3
        refine jiI1 (p := 43) rfl jM87 jq87_40 ?_
        refine jw_goto jM87 jq87_43 ?_
        obtain ⟨c5, h5⟩ := jo_i h4
        exact ih c5 h5 k σ2 s2
      · have h4 := jo_n c4 h3
        refine jaL2 (p := 32) rfl jM87 jq87_31 ?_
        obtain ⟨c6, h6⟩ := jo_i h4
        refine jw_callV [] jM87 jq87_32 rfl rfl (s2.pg c6).ob rfl jM36 rfl rfl ?_
        obtain ⟨x7, b8, h8⟩ := jo_b h6
        refine jd36  b8 (fun σ7 s7 r7 => ?_) σ2 s2
        show jb_w (d + 3) 87 35 [some (.ref 79), some (jb_v l1), some (.ref (x2.2))] [(jb_v (x7.2))] σ7 Q
        refine jw_if (p := 38) rfl jM87 jq87_35 (jc_eq r7 jb_r0) (fun c9 => ?_) (fun c9 => ?_)
        · have h9 := jo_p c9 h8
          refine jiI1 (p := 43) rfl jM87 jq87_40 ?_
          refine jw_goto jM87 jq87_43 ?_
          obtain ⟨c10, h10⟩ := jo_i h9
          exact ih c10 h10 k σ7 s7
        · have h9 := jo_n c9 h8
          refine jiL1 (p := 39) rfl jM87 jq87_38 ?_
          cases h9
          exact jw_iret jM87 jq87_39 (fun z => absurd z (by decide)) (k σ7 s7 hl1)
def fc87 (K : jc_K) : Option (jc_K × Int) := (fc86 K ).bind fun x1 => if x1.2 = (-1) then (fc87_12 jo_N (x1.1) 1) else (some (x1.1, 0))
theorem jd87 {d : Nat} {σ0 : ib_H} {Q : ib_O → Prop} {K : jc_K} {r : (jc_K × Int)} (h : fc87 K  = some r) (k : ∀ σ, jc_S σ0 r.1 σ → jb_r r.2 → Q (.inl (some (jb_v r.2)), σ)) : jc_W σ0 K (d + 3) 87 0 [some (.ref 79), none, none] [] Q := by
  intro σ s
  unfold fc87 at h
  refine jaL0 (p := 1) rfl jM87 jq87_0 ?_
  refine jw_callV [] jM87 jq87_1 rfl rfl (jo_79 s.1) rfl jM86 rfl rfl ?_
  obtain ⟨x1, b2, h2⟩ := jo_b h
  refine jd86  b2 (fun σ1 s1 r1 => ?_) σ s
  show jb_w (d + 3) 87 4 [some (.ref 79), none, none] [(jb_v (x1.2))] σ1 Q
  refine jw_iconst (p := 5) rfl jM87 jq87_4 ?_
  refine jw_ic (p := 8) rfl jM87 jq87_5 (jc_eq r1 (jb_rn rfl)) (fun c3 => ?_) (fun c3 => ?_)
  · have h3 := jo_p c3 h2
    refine jw_iconst (p := 11) rfl jM87 jq87_10 ?_
    refine jiS1 (p := 12) rfl jM87 jq87_11 ?_
    exact jd87_12 jo_N (jb_rn rfl) h3 k σ1 s1
  · have h3 := jo_n c3 h2
    refine jw_iconst (p := 9) rfl jM87 jq87_8 ?_
    cases h3
    exact jw_iret jM87 jq87_9 (fun z => absurd z (by decide)) (k σ1 s1 (jb_rn rfl))
-- 88 PageLoom$Tree.parentOf need 2
def fc88_2 : Nat → jc_K → Int → Int → Option (jc_K × Int)
  | 0, _, _, _ => none
  | m + 1, K, l1, l2 => if 24 ≤ l2 then (some (K, (-1))) else ((fc3 K l2).bind fun x2 => if x2.2 = 0 then (if -2147483648 ≤ (l2 + 1) ∧ (l2 + 1) < 2147483648 then fc88_2 m (x2.1) l1 (l2 + 1) else none) else (if jc_pg (x2.1) (x2.2) then if jc_i (x2.1) (x2.2) 0 = 2 then ((fc41 (x2.1) (x2.2) l1).bind fun x9 => if x9.2 = (-1) then (if -2147483648 ≤ (l2 + 1) ∧ (l2 + 1) < 2147483648 then fc88_2 m (x9.1) l1 (l2 + 1) else none) else (some (x9.1, l2))) else (if -2147483648 ≤ (l2 + 1) ∧ (l2 + 1) < 2147483648 then fc88_2 m (x2.1) l1 (l2 + 1) else none) else none))
theorem jd88_2 {d : Nat} {σ0 : ib_H} {Q : ib_O → Prop} : ∀ (m : Nat) {K : jc_K} {l1 : Int} {l2 : Int} {o3 : Option Value} (hl1 : jb_r l1) (hl2 : jb_r l2) {r : (jc_K × Int)} (h : fc88_2 m K l1 l2 = some r) (k : ∀ σ, jc_S σ0 r.1 σ → jb_r r.2 → Q (.inl (some (jb_v r.2)), σ)), jc_W σ0 K (d + 2) 88 2 [some (.ref 79), some (jb_v l1), some (jb_v l2), o3] [] Q := by
  intro m
  induction m with
  | zero =>
    intro K l1 l2 o3 hl1 hl2 r h k
    cases h
  | succ m ih =>
    intro K l1 l2 o3 hl1 hl2 r h k σ s
    unfold fc88_2 at h
    refine jiL2 (p := 3) rfl jM88 jq88_2 ?_
    refine jw_bipush (p := 5) rfl jM88 jq88_3 (by decide) ?_
    refine jw_ic (p := 8) rfl jM88 jq88_5 (jc_ge hl2 (jb_rn rfl)) (fun c1 => ?_) (fun c1 => ?_)
    · have h1 := jo_p c1 h
      refine jw_iconst (p := 47) rfl jM88 jq88_46 ?_
      cases h1
      exact jw_iret jM88 jq88_47 (fun z => absurd z (by decide)) (k σ s (jb_rn rfl))
    · have h1 := jo_n c1 h
      refine jaL0 (p := 9) rfl jM88 jq88_8 ?_
      refine jw_getP (p := 12) (i := 0) (q := 66) rfl jM88 jq88_9 rfl (jo_79 s.1) je_7_0 (jp_79_0 s.1) ?_
      refine jiL2 (p := 13) rfl jM88 jq88_12 ?_
      refine jw_callV [(jb_v l2)] jM88 jq88_13 rfl rfl (jo_66 s.1) rfl jM3 rfl rfl ?_
      obtain ⟨x2, b3, h3⟩ := jo_b h1
      refine jd3 hl2 b3 (fun σ2 s2 => ?_) σ s
      show jb_w (d + 2) 88 16 [some (.ref 79), some (jb_v l1), some (jb_v l2), o3] [(.ref (x2.2))] σ2 Q
      refine jaS3 (p := 17) rfl jM88 jq88_16 ?_
      refine jaL3 (p := 18) rfl jM88 jq88_17 ?_
      refine jw_ifnull (p := 21) rfl jM88 jq88_18 (fun c4 => ?_) (fun c4 => ?_)
      · have h4 := jo_p c4 h3
        refine jiI2 (p := 43) rfl jM88 jq88_40 ?_
        refine jw_goto jM88 jq88_43 ?_
        obtain ⟨c5, h5⟩ := jo_i h4
        exact ih hl1 c5 h5 k σ2 s2
      · have h4 := jo_n c4 h3
        refine jaL3 (p := 22) rfl jM88 jq88_21 ?_
        obtain ⟨c6, h6⟩ := jo_i h4
        refine jc_getI (p := 25) (i := 0) rfl jM88 jq88_22 rfl (s2.pg c6).ob jn_4_0 s2 (jc_pgd c6) (by decide) rfl ?_
        refine jw_iconst (p := 26) rfl jM88 jq88_25 ?_
        refine jw_ic (p := 29) rfl jM88 jq88_26 (jc_ne (s2.r _ _) (jb_rn rfl)) (fun c7 => ?_) (fun c7 => ?_)
        · have h7 := jo_n c7 h6
          refine jiI2 (p := 43) rfl jM88 jq88_40 ?_
          refine jw_goto jM88 jq88_43 ?_
          obtain ⟨c8, h8⟩ := jo_i h7
          exact ih hl1 c8 h8 k σ2 s2
        · have h7 := jo_p (Decidable.byContradiction c7) h6
          refine jaL3 (p := 30) rfl jM88 jq88_29 ?_
          refine jiL1 (p := 31) rfl jM88 jq88_30 ?_
          refine jw_callV [(jb_v l1)] jM88 jq88_31 rfl rfl (s2.pg c6).ob rfl jM41 rfl rfl ?_
          obtain ⟨x9, b10, h10⟩ := jo_b h7
          refine jd41 hl1 b10 (fun σ9 s9 r9 => ?_) σ2 s2
          show jb_w (d + 2) 88 34 [some (.ref 79), some (jb_v l1), some (jb_v l2), some (.ref (x2.2))] [(jb_v (x9.2))] σ9 Q
          refine jw_iconst (p := 35) rfl jM88 jq88_34 ?_
          refine jw_ic (p := 38) rfl jM88 jq88_35 (jc_eq r9 (jb_rn rfl)) (fun c11 => ?_) (fun c11 => ?_)
          · have h11 := jo_p c11 h10
            refine jiI2 (p := 43) rfl jM88 jq88_40 ?_
            refine jw_goto jM88 jq88_43 ?_
            obtain ⟨c12, h12⟩ := jo_i h11
            exact ih hl1 c12 h12 k σ9 s9
          · have h11 := jo_n c11 h10
            refine jiL2 (p := 39) rfl jM88 jq88_38 ?_
            cases h11
            exact jw_iret jM88 jq88_39 (fun z => absurd z (by decide)) (k σ9 s9 hl2)
def fc88 (K : jc_K) (l1 : Int) : Option (jc_K × Int) := fc88_2 jo_N K l1 0
theorem jd88 {d : Nat} {σ0 : ib_H} {Q : ib_O → Prop} {K : jc_K} {l1 : Int} (hl1 : jb_r l1) {r : (jc_K × Int)} (h : fc88 K l1 = some r) (k : ∀ σ, jc_S σ0 r.1 σ → jb_r r.2 → Q (.inl (some (jb_v r.2)), σ)) : jc_W σ0 K (d + 2) 88 0 [some (.ref 79), some (jb_v l1), none, none] [] Q := by
  intro σ s
  unfold fc88 at h
  refine jw_iconst (p := 1) rfl jM88 jq88_0 ?_
  refine jiS2 (p := 2) rfl jM88 jq88_1 ?_
  exact jd88_2 jo_N hl1 (jb_rn rfl) h k σ s
-- 60 PageLoom$Recovery.tidy need 5
def fc60_2 : Nat → jc_K → Int → Option (jc_K × Int)
  | 0, _, _ => none
  | m + 1, K, l1 => if 24 < l1 then (some (K, 1)) else ((fc87 K ).bind fun x2 => if x2.2 = (-1) then (some (x2.1, 1)) else (if x2.2 = 0 then ((fc83 (x2.1) (x2.2) (-1)).bind fun x13 => if x13.2 = 0 then (some (x13.1, 0)) else (if -2147483648 ≤ (l1 + 1) ∧ (l1 + 1) < 2147483648 then fc60_2 m (x13.1) (l1 + 1) else none)) else ((fc88 (x2.1) (x2.2)).bind fun x6 => if x6.2 = (-1) then (some (x6.1, 1)) else ((fc83 (x6.1) (x2.2) (x6.2)).bind fun x9 => if x9.2 = 0 then (some (x9.1, 0)) else (if -2147483648 ≤ (l1 + 1) ∧ (l1 + 1) < 2147483648 then fc60_2 m (x9.1) (l1 + 1) else none)))))
theorem jd60_2 {d : Nat} {σ0 : ib_H} {Q : ib_O → Prop} : ∀ (m : Nat) {K : jc_K} {l1 : Int} {o2 : Option Value} {o3 : Option Value} (hl1 : jb_r l1) {r : (jc_K × Int)} (h : fc60_2 m K l1 = some r) (k : ∀ σ, jc_S σ0 r.1 σ → jb_r r.2 → Q (.inl (some (jb_v r.2)), σ)), jc_W σ0 K (d + 5) 60 2 [some (.ref 83), some (jb_v l1), o2, o3] [] Q := by
  intro m
  induction m with
  | zero =>
    intro K l1 o2 o3 hl1 r h k
    cases h
  | succ m ih =>
    intro K l1 o2 o3 hl1 r h k σ s
    unfold fc60_2 at h
    refine jiL1 (p := 3) rfl jM60 jq60_2 ?_
    refine jw_bipush (p := 5) rfl jM60 jq60_3 (by decide) ?_
    refine jw_ic (p := 8) rfl jM60 jq60_5 (jc_gt hl1 (jb_rn rfl)) (fun c1 => ?_) (fun c1 => ?_)
    · have h1 := jo_p c1 h
      refine jw_iconst (p := 72) rfl jM60 jq60_71 ?_
      cases h1
      exact jw_iret jM60 jq60_72 (fun _ => Or.inr rfl) (k σ s (jb_rn rfl))
    · have h1 := jo_n c1 h
      refine jaL0 (p := 9) rfl jM60 jq60_8 ?_
      refine jw_getP (p := 12) (i := 3) (q := 79) rfl jM60 jq60_9 rfl (jo_83 s.1) je_5_3 (jp_83_3 s.1) ?_
      refine jw_callV [] jM60 jq60_12 rfl rfl (jo_79 s.1) rfl jM87 rfl rfl ?_
      obtain ⟨x2, b3, h3⟩ := jo_b h1
      refine jd87  b3 (fun σ2 s2 r2 => ?_) σ s
      show jb_w (d + 5) 60 15 [some (.ref 83), some (jb_v l1), o2, o3] [(jb_v (x2.2))] σ2 Q
      refine jiS2 (p := 16) rfl jM60 jq60_15 ?_
      refine jiL2 (p := 17) rfl jM60 jq60_16 ?_
      refine jw_iconst (p := 18) rfl jM60 jq60_17 ?_
      refine jw_ic (p := 21) rfl jM60 jq60_18 (jc_ne r2 (jb_rn rfl)) (fun c4 => ?_) (fun c4 => ?_)
      · have h4 := jo_n c4 h3
        refine jiL2 (p := 24) rfl jM60 jq60_23 ?_
        refine jw_if (p := 27) rfl jM60 jq60_24 (jc_ne r2 jb_r0) (fun c5 => ?_) (fun c5 => ?_)
        · have h5 := jo_n c5 h4
          refine jaL0 (p := 32) rfl jM60 jq60_31 ?_
          refine jw_getP (p := 35) (i := 3) (q := 79) rfl jM60 jq60_32 rfl (jo_83 s2.1) je_5_3 (jp_83_3 s2.1) ?_
          refine jiL2 (p := 36) rfl jM60 jq60_35 ?_
          refine jw_callV [(jb_v (x2.2))] jM60 jq60_36 rfl rfl (jo_79 s2.1) rfl jM88 rfl rfl ?_
          obtain ⟨x6, b7, h7⟩ := jo_b h5
          refine jd88 r2 b7 (fun σ6 s6 r6 => ?_) σ2 s2
          show jb_w (d + 5) 60 39 [some (.ref 83), some (jb_v l1), some (jb_v (x2.2)), o3] [(jb_v (x6.2))] σ6 Q
          refine jiS3 (p := 40) rfl jM60 jq60_39 ?_
          refine jiL2 (p := 41) rfl jM60 jq60_40 ?_
          refine jw_if (p := 44) rfl jM60 jq60_41 (jc_eq r2 jb_r0) (fun z => absurd z c5) (fun _ => ?_)
          refine jiL3 (p := 45) rfl jM60 jq60_44 ?_
          refine jw_iconst (p := 46) rfl jM60 jq60_45 ?_
          refine jw_ic (p := 49) rfl jM60 jq60_46 (jc_ne r6 (jb_rn rfl)) (fun c8 => ?_) (fun c8 => ?_)
          · have h8 := jo_n c8 h7
            refine jaL0 (p := 52) rfl jM60 jq60_51 ?_
            refine jw_getP (p := 55) (i := 3) (q := 79) rfl jM60 jq60_52 rfl (jo_83 s6.1) je_5_3 (jp_83_3 s6.1) ?_
            refine jiL2 (p := 56) rfl jM60 jq60_55 ?_
            refine jiL3 (p := 57) rfl jM60 jq60_56 ?_
            refine jw_callV [(jb_v (x2.2)), (jb_v (x6.2))] jM60 jq60_57 rfl rfl (jo_79 s6.1) rfl jM83 rfl rfl ?_
            obtain ⟨x9, b10, h10⟩ := jo_b h8
            refine jd83 r2 r6 b10 (fun σ9 s9 r9 => ?_) σ6 s6
            show jb_w (d + 5) 60 60 [some (.ref 83), some (jb_v l1), some (jb_v (x2.2)), some (jb_v (x6.2))] [(jb_v (x9.2))] σ9 Q
            refine jw_if (p := 63) rfl jM60 jq60_60 (jc_ne r9 jb_r0) (fun c11 => ?_) (fun c11 => ?_)
            · have h11 := jo_n c11 h10
              refine jiI1 (p := 68) rfl jM60 jq60_65 ?_
              refine jw_goto jM60 jq60_68 ?_
              obtain ⟨c12, h12⟩ := jo_i h11
              exact ih c12 h12 k σ9 s9
            · have h11 := jo_p (Decidable.byContradiction c11) h10
              refine jw_iconst (p := 64) rfl jM60 jq60_63 ?_
              cases h11
              exact jw_iret jM60 jq60_64 (fun _ => Or.inl rfl) (k σ9 s9 (jb_rn rfl))
          · have h8 := jo_p (Decidable.byContradiction c8) h7
            refine jw_iconst (p := 50) rfl jM60 jq60_49 ?_
            cases h8
            exact jw_iret jM60 jq60_50 (fun _ => Or.inr rfl) (k σ6 s6 (jb_rn rfl))
        · have h5 := jo_p (Decidable.byContradiction c5) h4
          refine jw_iconst (p := 28) rfl jM60 jq60_27 ?_
          refine jw_goto jM60 jq60_28 ?_
          refine jiS3 (p := 40) rfl jM60 jq60_39 ?_
          refine jiL2 (p := 41) rfl jM60 jq60_40 ?_
          refine jw_if (p := 44) rfl jM60 jq60_41 (jc_eq r2 jb_r0) (fun _ => ?_) (fun z => absurd (Decidable.byContradiction c5) z)
          refine jaL0 (p := 52) rfl jM60 jq60_51 ?_
          refine jw_getP (p := 55) (i := 3) (q := 79) rfl jM60 jq60_52 rfl (jo_83 s2.1) je_5_3 (jp_83_3 s2.1) ?_
          refine jiL2 (p := 56) rfl jM60 jq60_55 ?_
          refine jiL3 (p := 57) rfl jM60 jq60_56 ?_
          refine jw_callV [(jb_v (x2.2)), (jb_v (-1))] jM60 jq60_57 rfl rfl (jo_79 s2.1) rfl jM83 rfl rfl ?_
          obtain ⟨x13, b14, h14⟩ := jo_b h5
          refine jd83 r2 (jb_rn rfl) b14 (fun σ13 s13 r13 => ?_) σ2 s2
          show jb_w (d + 5) 60 60 [some (.ref 83), some (jb_v l1), some (jb_v (x2.2)), some (jb_v (-1))] [(jb_v (x13.2))] σ13 Q
          refine jw_if (p := 63) rfl jM60 jq60_60 (jc_ne r13 jb_r0) (fun c15 => ?_) (fun c15 => ?_)
          · have h15 := jo_n c15 h14
            refine jiI1 (p := 68) rfl jM60 jq60_65 ?_
            refine jw_goto jM60 jq60_68 ?_
            obtain ⟨c16, h16⟩ := jo_i h15
            exact ih c16 h16 k σ13 s13
          · have h15 := jo_p (Decidable.byContradiction c15) h14
            refine jw_iconst (p := 64) rfl jM60 jq60_63 ?_
            cases h15
            exact jw_iret jM60 jq60_64 (fun _ => Or.inl rfl) (k σ13 s13 (jb_rn rfl))
      · have h4 := jo_p (Decidable.byContradiction c4) h3
        refine jw_iconst (p := 22) rfl jM60 jq60_21 ?_
        cases h4
        exact jw_iret jM60 jq60_22 (fun _ => Or.inr rfl) (k σ2 s2 (jb_rn rfl))
def fc60 (K : jc_K) : Option (jc_K × Int) := fc60_2 jo_N K 0
theorem jd60 {d : Nat} {σ0 : ib_H} {Q : ib_O → Prop} {K : jc_K} {r : (jc_K × Int)} (h : fc60 K  = some r) (k : ∀ σ, jc_S σ0 r.1 σ → jb_r r.2 → Q (.inl (some (jb_v r.2)), σ)) : jc_W σ0 K (d + 5) 60 0 [some (.ref 83), none, none, none] [] Q := by
  intro σ s
  unfold fc60 at h
  refine jw_iconst (p := 1) rfl jM60 jq60_0 ?_
  refine jiS1 (p := 2) rfl jM60 jq60_1 ?_
  exact jd60_2 jo_N (jb_rn rfl) h k σ s
-- 62 PageLoom$Transactions.begin need 0
def fc62 (K : jc_K) (l1 : Int) : Option (jc_K × Int) := if 0 ≤ l1 ∧ l1 < 4 then some (jc_ui (jc_ui (jc_ui K 58 l1 1) 59 l1 0) 60 l1 0, 0) else none
theorem jd62 {d : Nat} {σ0 : ib_H} {Q : ib_O → Prop} {K : jc_K} {l1 : Int} (hl1 : jb_r l1) {r : (jc_K × Int)} (h : fc62 K l1 = some r) (k : ∀ σ, jc_S σ0 r.1 σ → Q (.inl none, σ)) : jc_W σ0 K d 62 0 [some (.ref 57), some (jb_v l1)] [] Q := by
  intro σ s
  unfold fc62 at h
  refine jaL0 (p := 1) rfl jM62 jq62_0 ?_
  refine jw_getP (p := 4) (i := 0) (q := 58) rfl jM62 jq62_1 rfl (jo_57 s.1) je_6_0 (jp_57_0 s.1) ?_
  refine jiL1 (p := 5) rfl jM62 jq62_4 ?_
  refine jw_iconst (p := 6) rfl jM62 jq62_5 ?_
  obtain ⟨c1, h1⟩ := jo_i h
  refine jc_bast (p := 7) rfl jM62 jq62_6 (ja_58 s.1) c1.1 c1.2 (Or.inr rfl) s (by decide) ?_
  intro σ2 s2
  refine jaL0 (p := 8) rfl jM62 jq62_7 ?_
  refine jw_getP (p := 11) (i := 1) (q := 59) rfl jM62 jq62_8 rfl (jo_57 s2.1) je_6_1 (jp_57_1 s2.1) ?_
  refine jiL1 (p := 12) rfl jM62 jq62_11 ?_
  refine jw_iconst (p := 13) rfl jM62 jq62_12 ?_
  refine jc_iast (p := 14) rfl jM62 jq62_13 (ja_59 s2.1) c1.1 c1.2 s2 (by decide) (jb_rn rfl) ?_
  intro σ3 s3
  refine jaL0 (p := 15) rfl jM62 jq62_14 ?_
  refine jw_getP (p := 18) (i := 2) (q := 60) rfl jM62 jq62_15 rfl (jo_57 s3.1) je_6_2 (jp_57_2 s3.1) ?_
  refine jiL1 (p := 19) rfl jM62 jq62_18 ?_
  refine jw_iconst (p := 20) rfl jM62 jq62_19 ?_
  refine jc_iast (p := 21) rfl jM62 jq62_20 (ja_60 s3.1) c1.1 c1.2 s3 (by decide) (jb_rn rfl) ?_
  intro σ4 s4
  cases h1
  exact jw_vret jM62 jq62_21 (k σ4 s4)
