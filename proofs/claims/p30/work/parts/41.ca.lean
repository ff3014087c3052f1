/-! the class as functions: written by wip/tools/genc.py (gc1.py) -/
def jo_ln {α : Type} (v : Nat) (f : Nat → α) : α := f v
theorem jo_lnb {α : Type} {v : Nat} {f : Nat → α} {r : α} (h : jo_ln v f = r) : ∃ x, v = x ∧ f x = r := ⟨v, rfl, h⟩
def jc_E (vd : Bool) (x : Int ⊕ Nat) (σ : ib_H) (Q : ib_O → Prop) : Prop := match x with
  | .inl v => Q (.inl (cond vd none (some (jb_v v))), σ)
  | .inr k => Q (.inr k, σ)
theorem jc_S.orp {σ0 σ : ib_H} {K : jc_K} (s : jc_S σ0 K σ) {q : Nat} (h : q = 0 ∨ jc_pg K q) : q = 0 ∨ jb_ob σ 4 q := by
  rcases h with h | h
  · exact Or.inl h
  · exact Or.inr (s.pg h).ob
theorem jc_rc2 {K : jc_K} {p : Nat} (h : jc_rc K p) : 98 ≤ p + 2 := Nat.le_trans h.1.1 (Nat.le_add_right _ _)
theorem jc_S.nx1 {σ0 σ : ib_H} {K : jc_K} (s : jc_S σ0 K σ) {q : Nat} (h : K.1.1 = q) : q ≠ 1 := by
  have h1 := s.1.1
  have h2 : ib_nx σ = K.1.1 := s.nx
  omega
theorem jc_nar {d mi pc : Nat} {ls : ib_Ls} {r : List Value} {σ0 σ : ib_H} {K : jc_K} {Q : ib_O → Prop} {M : ib_M} {a2 a3 a4 : Nat} {t : ClassFile.ArrayType} {n p q : Nat} (hpc : pc + 2 = p) (hM : ib_Ms mi = some M) (hq : M.2.2.2.2.2[pc]? = some (some (.newarray t, 100, a2, a3, a4))) (hn : n ≤ 1000000) (s : jc_S σ0 K σ) (e : K.1.1 = q) (h : jc_W σ0 (jc_na K n) d mi p ls (.ref q :: r) Q) : jb_w d mi pc ls (jb_v (n : Int) :: r) σ Q := by
  refine jw_nar hpc hM hq hn ?_
  rw [show ib_nx σ = q from s.nx.trans e]
  exact h _ (s.new 100 n n)
theorem jc_mkP' {d mi pc : Nat} {ls : ib_Ls} {st : List Value} {σ0 σ : ib_H} {K : jc_K} {Q : ib_O → Prop} {M : ib_M} {i1 i2 b2 b3 b4 c1 c2 c3 c4 e4 p q : Nat} (hpc : pc + 7 = p) (hM : ib_Ms mi = some M) (hq : M.2.2.2.2.2[pc]? = some (some (.new i1, 4, b2, b3, b4))) (hq2 : M.2.2.2.2.2[pc + 3]? = some (some (.dup, c1, c2, c3, c4))) (hq3 : M.2.2.2.2.2[pc + 4]? = some (some (.invokespecial i2, 32, 0, 4, e4))) (hh : M.2.2.2.2.1 = []) (hl : st.length ≤ 3) (s : jc_S σ0 K σ) (e : K.1.1 = q) (h : jc_W σ0 (jc_np K) (d + 1) mi p ls (.ref q :: st) Q) : jb_w (d + 1) mi pc ls st σ Q := by
  subst e
  exact jc_mkP hpc hM hq hq2 hq3 hh hl s h
theorem jc_mkR' {d mi pc : Nat} {ls : ib_Ls} {st : List Value} {σ0 σ : ib_H} {K : jc_K} {Q : ib_O → Prop} {M : ib_M} {i1 i2 b2 b3 b4 c1 c2 c3 c4 e4 p q : Nat} (hpc : pc + 7 = p) (hM : ib_Ms mi = some M) (hq : M.2.2.2.2.2[pc]? = some (some (.new i1, 3, b2, b3, b4))) (hq2 : M.2.2.2.2.2[pc + 3]? = some (some (.dup, c1, c2, c3, c4))) (hq3 : M.2.2.2.2.2[pc + 4]? = some (some (.invokespecial i2, 24, 0, 3, e4))) (hh : M.2.2.2.2.1 = []) (hl : st.length ≤ 3) (s : jc_S σ0 K σ) (e : K.1.1 = q) (h : jc_W σ0 (jc_nr K) (d + 1) mi p ls (.ref q :: st) Q) : jb_w (d + 1) mi pc ls st σ Q := by
  subst e
  exact jc_mkR hpc hM hq hq2 hq3 hh hl s h
-- 1 PageLoom$Cache.empty need 0
def fc1_2 : Nat → jc_K → Int → Option (jc_K × Int)
  | 0, _, _ => none
  | m + 1, K, l1 => if 4 ≤ l1 then (some (jc_ui K 66 5 0, 0)) else (if 0 ≤ l1 ∧ l1 < 4 then if -2147483648 ≤ (l1 + 1) ∧ (l1 + 1) < 2147483648 then fc1_2 m (jc_ui (jc_ui (jc_ui K 68 l1 (-1)) 69 l1 0) 70 l1 0) (l1 + 1) else none else none)
theorem jd1_2 {d : Nat} {σ0 : ib_H} {Q : ib_O → Prop} : ∀ (m : Nat) {K : jc_K} {l1 : Int} (hl1 : jb_r l1) {r : (jc_K × Int)} (h : fc1_2 m K l1 = some r) (k : ∀ σ, jc_S σ0 r.1 σ → Q (.inl none, σ)), jc_W σ0 K d 1 2 [some (.ref 66), some (jb_v l1)] [] Q := by
  intro m
  induction m with
  | zero =>
    intro K l1 hl1 r h k
    cases h
  | succ m ih =>
    intro K l1 hl1 r h k σ s
    unfold fc1_2 at h
    refine jiL1 (p := 3) rfl jM1 jq1_2 ?_
    refine jw_iconst (p := 4) rfl jM1 jq1_3 ?_
    refine jw_ic (p := 7) rfl jM1 jq1_4 (jc_ge hl1 (jb_rn rfl)) (fun c1 => ?_) (fun c1 => ?_)
    · have h1 := jo_p c1 h
      refine jaL0 (p := 35) rfl jM1 jq1_34 ?_
      refine jw_iconst (p := 36) rfl jM1 jq1_35 ?_
      refine jc_putI (p := 39) (i := 5) rfl jM1 jq1_36 rfl (jo_66 s.1) (Or.inl jz_0_5) s (by decide) (by decide) (jb_rn rfl) ?_
      intro σ2 s2
      cases h1
      exact jw_vret jM1 jq1_39 (k σ2 s2)
    · have h1 := jo_n c1 h
      refine jaL0 (p := 8) rfl jM1 jq1_7 ?_
      refine jw_getP (p := 11) (i := 2) (q := 68) rfl jM1 jq1_8 rfl (jo_66 s.1) je_0_2 (jp_66_2 s.1) ?_
      refine jiL1 (p := 12) rfl jM1 jq1_11 ?_
      refine jw_iconst (p := 13) rfl jM1 jq1_12 ?_
      obtain ⟨c3, h3⟩ := jo_i h1
      refine jc_iast (p := 14) rfl jM1 jq1_13 (ja_68 s.1) c3.1 c3.2 s (by decide) (jb_rn rfl) ?_
      intro σ4 s4
      refine jaL0 (p := 15) rfl jM1 jq1_14 ?_
      refine jw_getP (p := 18) (i := 3) (q := 69) rfl jM1 jq1_15 rfl (jo_66 s4.1) je_0_3 (jp_66_3 s4.1) ?_
      refine jiL1 (p := 19) rfl jM1 jq1_18 ?_
      refine jw_iconst (p := 20) rfl jM1 jq1_19 ?_
      refine jc_bast (p := 21) rfl jM1 jq1_20 (ja_69 s4.1) c3.1 c3.2 (Or.inl rfl) s4 (by decide) ?_
      intro σ5 s5
      refine jaL0 (p := 22) rfl jM1 jq1_21 ?_
      refine jw_getP (p := 25) (i := 4) (q := 70) rfl jM1 jq1_22 rfl (jo_66 s5.1) je_0_4 (jp_66_4 s5.1) ?_
      refine jiL1 (p := 26) rfl jM1 jq1_25 ?_
      refine jw_iconst (p := 27) rfl jM1 jq1_26 ?_
      refine jc_iast (p := 28) rfl jM1 jq1_27 (ja_70 s5.1) c3.1 c3.2 s5 (by decide) (jb_rn rfl) ?_
      intro σ6 s6
      refine jiI1 (p := 31) rfl jM1 jq1_28 ?_
      refine jw_goto jM1 jq1_31 ?_
      obtain ⟨c7, h7⟩ := jo_i h3
      exact ih c7 h7 k σ6 s6
def fc1 (K : jc_K) : Option (jc_K × Int) := fc1_2 jo_N K 0
theorem jd1 {d : Nat} {σ0 : ib_H} {Q : ib_O → Prop} {K : jc_K} {r : (jc_K × Int)} (h : fc1 K  = some r) (k : ∀ σ, jc_S σ0 r.1 σ → Q (.inl none, σ)) : jc_W σ0 K d 1 0 [some (.ref 66), none] [] Q := by
  intro σ s
  unfold fc1 at h
  refine jw_iconst (p := 1) rfl jM1 jq1_0 ?_
  refine jiS1 (p := 2) rfl jM1 jq1_1 ?_
  exact jd1_2 jo_N (jb_rn rfl) h k σ s
-- 2 PageLoom$Cache.frameOf need 0
def fc2_2 : Nat → jc_K → Int → Int → Option (jc_K × Int)
  | 0, _, _, _ => none
  | m + 1, K, l1, l2 => if 4 ≤ l2 then (some (K, (-1))) else (if 0 ≤ l2 ∧ l2 < 4 then if jc_i K 68 l2 = l1 then (some (K, l2)) else (if -2147483648 ≤ (l2 + 1) ∧ (l2 + 1) < 2147483648 then fc2_2 m K l1 (l2 + 1) else none) else none)
theorem jd2_2 {d : Nat} {σ0 : ib_H} {Q : ib_O → Prop} : ∀ (m : Nat) {K : jc_K} {l1 : Int} {l2 : Int} (hl1 : jb_r l1) (hl2 : jb_r l2) {r : (jc_K × Int)} (h : fc2_2 m K l1 l2 = some r) (k : ∀ σ, jc_S σ0 r.1 σ → jb_r r.2 → Q (.inl (some (jb_v r.2)), σ)), jc_W σ0 K d 2 2 [some (.ref 66), some (jb_v l1), some (jb_v l2)] [] Q := by
  intro m
  induction m with
  | zero =>
    intro K l1 l2 hl1 hl2 r h k
    cases h
  | succ m ih =>
    intro K l1 l2 hl1 hl2 r h k σ s
    unfold fc2_2 at h
    refine jiL2 (p := 3) rfl jM2 jq2_2 ?_
    refine jw_iconst (p := 4) rfl jM2 jq2_3 ?_
    refine jw_ic (p := 7) rfl jM2 jq2_4 (jc_ge hl2 (jb_rn rfl)) (fun c1 => ?_) (fun c1 => ?_)
    · have h1 := jo_p c1 h
      refine jw_iconst (p := 26) rfl jM2 jq2_25 ?_
      cases h1
      exact jw_iret jM2 jq2_26 (fun z => absurd z (by decide)) (k σ s (jb_rn rfl))
    · have h1 := jo_n c1 h
      refine jaL0 (p := 8) rfl jM2 jq2_7 ?_
      refine jw_getP (p := 11) (i := 2) (q := 68) rfl jM2 jq2_8 rfl (jo_66 s.1) je_0_2 (jp_66_2 s.1) ?_
      refine jiL2 (p := 12) rfl jM2 jq2_11 ?_
      obtain ⟨c2, h2⟩ := jo_i h1
      refine jc_iald (p := 13) rfl jM2 jq2_12 (ja_68 s.1) c2.1 c2.2 s (by decide) rfl ?_
      refine jiL1 (p := 14) rfl jM2 jq2_13 ?_
      refine jw_ic (p := 17) rfl jM2 jq2_14 (jc_ne (s.r _ _) hl1) (fun c3 => ?_) (fun c3 => ?_)
      · have h3 := jo_n c3 h2
        refine jiI2 (p := 22) rfl jM2 jq2_19 ?_
        refine jw_goto jM2 jq2_22 ?_
        obtain ⟨c4, h4⟩ := jo_i h3
        exact ih hl1 c4 h4 k σ s
      · have h3 := jo_p (Decidable.byContradiction c3) h2
        refine jiL2 (p := 18) rfl jM2 jq2_17 ?_
        cases h3
        exact jw_iret jM2 jq2_18 (fun z => absurd z (by decide)) (k σ s hl2)
def fc2 (K : jc_K) (l1 : Int) : Option (jc_K × Int) := fc2_2 jo_N K l1 0
theorem jd2 {d : Nat} {σ0 : ib_H} {Q : ib_O → Prop} {K : jc_K} {l1 : Int} (hl1 : jb_r l1) {r : (jc_K × Int)} (h : fc2 K l1 = some r) (k : ∀ σ, jc_S σ0 r.1 σ → jb_r r.2 → Q (.inl (some (jb_v r.2)), σ)) : jc_W σ0 K d 2 0 [some (.ref 66), some (jb_v l1), none] [] Q := by
  intro σ s
  unfold fc2 at h
  refine jw_iconst (p := 1) rfl jM2 jq2_0 ?_
  refine jiS2 (p := 2) rfl jM2 jq2_1 ?_
  exact jd2_2 jo_N hl1 (jb_rn rfl) h k σ s
-- 15 PageLoom$Disk.isTorn need 0
def fc15 (K : jc_K) (l1 : Int) : Option (jc_K × Int) := if l1 < 0 then (some (K, 0)) else (if 24 ≤ l1 then (some (K, 0)) else (if 0 ≤ l1 ∧ l1 < 24 then if jc_i K 5 l1 = jc_i K 6 l1 then (some (K, 0)) else (some (K, 1)) else none))
theorem jd15 {d : Nat} {σ0 : ib_H} {Q : ib_O → Prop} {K : jc_K} {l1 : Int} (hl1 : jb_r l1) {r : (jc_K × Int)} (h : fc15 K l1 = some r) (k : ∀ σ, jc_S σ0 r.1 σ → jb_r r.2 → Q (.inl (some (jb_v r.2)), σ)) : jc_W σ0 K d 15 0 [some (.ref 3), some (jb_v l1)] [] Q := by
  intro σ s
  unfold fc15 at h
  refine jiL1 (p := 1) rfl jM15 jq15_0 ?_
  refine jw_if (p := 4) rfl jM15 jq15_1 (jc_lt hl1 jb_r0) (fun c1 => ?_) (fun c1 => ?_)
  · have h1 := jo_p c1 h
    refine jw_iconst (p := 30) rfl jM15 jq15_29 ?_
    cases h1
    exact jw_iret jM15 jq15_30 (fun _ => Or.inl rfl) (k σ s (jb_rn rfl))
  · have h1 := jo_n c1 h
    refine jiL1 (p := 5) rfl jM15 jq15_4 ?_
    refine jw_bipush (p := 7) rfl jM15 jq15_5 (by decide) ?_
    refine jw_ic (p := 10) rfl jM15 jq15_7 (jc_ge hl1 (jb_rn rfl)) (fun c2 => ?_) (fun c2 => ?_)
    · have h2 := jo_p c2 h1
      refine jw_iconst (p := 30) rfl jM15 jq15_29 ?_
      cases h2
      exact jw_iret jM15 jq15_30 (fun _ => Or.inl rfl) (k σ s (jb_rn rfl))
    · have h2 := jo_n c2 h1
      refine jaL0 (p := 11) rfl jM15 jq15_10 ?_
      refine jw_getP (p := 14) (i := 1) (q := 5) rfl jM15 jq15_11 rfl (jo_3 s.1) je_1_1 (jp_3_1 s.1) ?_
      refine jiL1 (p := 15) rfl jM15 jq15_14 ?_
      obtain ⟨c3, h3⟩ := jo_i h2
      refine jc_iald (p := 16) rfl jM15 jq15_15 (ja_5 s.1) c3.1 c3.2 s (by decide) rfl ?_
      refine jaL0 (p := 17) rfl jM15 jq15_16 ?_
      refine jw_getP (p := 20) (i := 2) (q := 6) rfl jM15 jq15_17 rfl (jo_3 s.1) je_1_2 (jp_3_2 s.1) ?_
      refine jiL1 (p := 21) rfl jM15 jq15_20 ?_
      refine jc_iald (p := 22) rfl jM15 jq15_21 (ja_6 s.1) c3.1 c3.2 s (by decide) rfl ?_
      refine jw_ic (p := 25) rfl jM15 jq15_22 (jc_eq (s.r _ _) (s.r _ _)) (fun c4 => ?_) (fun c4 => ?_)
      · have h4 := jo_p c4 h3
        refine jw_iconst (p := 30) rfl jM15 jq15_29 ?_
        cases h4
        exact jw_iret jM15 jq15_30 (fun _ => Or.inl rfl) (k σ s (jb_rn rfl))
      · have h4 := jo_n c4 h3
        refine jw_iconst (p := 26) rfl jM15 jq15_25 ?_
        refine jw_goto jM15 jq15_26 ?_
        cases h4
        exact jw_iret jM15 jq15_30 (fun _ => Or.inr rfl) (k σ s (jb_rn rfl))
-- 3 PageLoom$Cache.seen need 1
def fc3 (K : jc_K) (l1 : Int) : Option (jc_K × Nat) := if l1 < 0 then (some (K, 0)) else (if l1 < 24 then ((fc2 K l1).bind fun x3 => if x3.2 < 0 then ((fc15 (x3.1) l1).bind fun x6 => if x6.2 = 0 then (if 0 ≤ l1 ∧ l1 < 24 then some (x6.1, 9 + 2 * Int.toNat l1) else none) else (some (x6.1, 0))) else (if 4 ≤ x3.2 then ((fc15 (x3.1) l1).bind fun x11 => if x11.2 = 0 then (if 0 ≤ l1 ∧ l1 < 24 then some (x11.1, 9 + 2 * Int.toNat l1) else none) else (some (x11.1, 0))) else (if 0 ≤ (x3.2) ∧ (x3.2) < 4 then some (x3.1, 71 + 2 * Int.toNat (x3.2)) else none))) else (some (K, 0)))
theorem jd3 {d : Nat} {σ0 : ib_H} {Q : ib_O → Prop} {K : jc_K} {l1 : Int} (hl1 : jb_r l1) {r : (jc_K × Nat)} (h : fc3 K l1 = some r) (k : ∀ σ, jc_S σ0 r.1 σ → Q (.inl (some (.ref r.2)), σ)) : jc_W σ0 K (d + 1) 3 0 [some (.ref 66), some (jb_v l1), none] [] Q := by
  intro σ s
  unfold fc3 at h
  refine jiL1 (p := 1) rfl jM3 jq3_0 ?_
  refine jw_if (p := 4) rfl jM3 jq3_1 (jc_lt hl1 jb_r0) (fun c1 => ?_) (fun c1 => ?_)
  · have h1 := jo_p c1 h
    refine jw_null (p := 11) rfl jM3 jq3_10 ?_
    cases h1
    exact jw_aret jM3 jq3_11 (k σ s)
  · have h1 := jo_n c1 h
    refine jiL1 (p := 5) rfl jM3 jq3_4 ?_
    refine jw_bipush (p := 7) rfl jM3 jq3_5 (by decide) ?_
    refine jw_ic (p := 10) rfl jM3 jq3_7 (jc_lt hl1 (jb_rn rfl)) (fun c2 => ?_) (fun c2 => ?_)
    · have h2 := jo_p c2 h1
      refine jaL0 (p := 13) rfl jM3 jq3_12 ?_
      refine jiL1 (p := 14) rfl jM3 jq3_13 ?_
      refine jw_callV [(jb_v l1)] jM3 jq3_14 rfl rfl (jo_66 s.1) rfl jM2 rfl rfl ?_
      obtain ⟨x3, b4, h4⟩ := jo_b h2
      refine jd2 hl1 b4 (fun σ3 s3 r3 => ?_) σ s
      show jb_w (d + 1) 3 17 [some (.ref 66), some (jb_v l1), none] [(jb_v (x3.2))] σ3 Q
      refine jiS2 (p := 18) rfl jM3 jq3_17 ?_
      refine jiL2 (p := 19) rfl jM3 jq3_18 ?_
      refine jw_if (p := 22) rfl jM3 jq3_19 (jc_lt r3 jb_r0) (fun c5 => ?_) (fun c5 => ?_)
      · have h5 := jo_p c5 h4
        refine jaL0 (p := 35) rfl jM3 jq3_34 ?_
        refine jw_getP (p := 38) (i := 0) (q := 3) rfl jM3 jq3_35 rfl (jo_66 s3.1) je_0_0 (jp_66_0 s3.1) ?_
        refine jiL1 (p := 39) rfl jM3 jq3_38 ?_
        refine jw_callV [(jb_v l1)] jM3 jq3_39 rfl rfl (jo_3 s3.1) rfl jM15 rfl rfl ?_
        obtain ⟨x6, b7, h7⟩ := jo_b h5
        refine jd15 hl1 b7 (fun σ6 s6 r6 => ?_) σ3 s3
        show jb_w (d + 1) 3 42 [some (.ref 66), some (jb_v l1), some (jb_v (x3.2))] [(jb_v (x6.2))] σ6 Q
        refine jw_if (p := 45) rfl jM3 jq3_42 (jc_eq r6 jb_r0) (fun c8 => ?_) (fun c8 => ?_)
        · have h8 := jo_p c8 h7
          refine jaL0 (p := 50) rfl jM3 jq3_49 ?_
          refine jw_getP (p := 53) (i := 0) (q := 3) rfl jM3 jq3_50 rfl (jo_66 s6.1) je_0_0 (jp_66_0 s6.1) ?_
          refine jw_getP (p := 56) (i := 0) (q := 4) rfl jM3 jq3_53 rfl (jo_3 s6.1) je_1_0 (jp_3_0 s6.1) ?_
          refine jiL1 (p := 57) rfl jM3 jq3_56 ?_
          obtain ⟨c9, h9⟩ := jo_i h8
          refine jw_aald (p := 58) rfl jM3 jq3_57 (ja_4 s6.1) (Or.inl rfl) c9.1 c9.2 (jb_Fqd s6.1 c9.1 c9.2) ?_
          cases h9
          exact jw_aret jM3 jq3_58 (k σ6 s6)
        · have h8 := jo_n c8 h7
          refine jw_null (p := 46) rfl jM3 jq3_45 ?_
          refine jw_goto jM3 jq3_46 ?_
          cases h8
          exact jw_aret jM3 jq3_58 (k σ6 s6)
      · have h5 := jo_n c5 h4
        refine jiL2 (p := 23) rfl jM3 jq3_22 ?_
        refine jw_iconst (p := 24) rfl jM3 jq3_23 ?_
        refine jw_ic (p := 27) rfl jM3 jq3_24 (jc_ge r3 (jb_rn rfl)) (fun c10 => ?_) (fun c10 => ?_)
        · have h10 := jo_p c10 h5
          refine jaL0 (p := 35) rfl jM3 jq3_34 ?_
          refine jw_getP (p := 38) (i := 0) (q := 3) rfl jM3 jq3_35 rfl (jo_66 s3.1) je_0_0 (jp_66_0 s3.1) ?_
          refine jiL1 (p := 39) rfl jM3 jq3_38 ?_
          refine jw_callV [(jb_v l1)] jM3 jq3_39 rfl rfl (jo_3 s3.1) rfl jM15 rfl rfl ?_
          obtain ⟨x11, b12, h12⟩ := jo_b h10
          refine jd15 hl1 b12 (fun σ11 s11 r11 => ?_) σ3 s3
          show jb_w (d + 1) 3 42 [some (.ref 66), some (jb_v l1), some (jb_v (x3.2))] [(jb_v (x11.2))] σ11 Q
          refine jw_if (p := 45) rfl jM3 jq3_42 (jc_eq r11 jb_r0) (fun c13 => ?_) (fun c13 => ?_)
          · have h13 := jo_p c13 h12
            refine jaL0 (p := 50) rfl jM3 jq3_49 ?_
            refine jw_getP (p := 53) (i := 0) (q := 3) rfl jM3 jq3_50 rfl (jo_66 s11.1) je_0_0 (jp_66_0 s11.1) ?_
            refine jw_getP (p := 56) (i := 0) (q := 4) rfl jM3 jq3_53 rfl (jo_3 s11.1) je_1_0 (jp_3_0 s11.1) ?_
            refine jiL1 (p := 57) rfl jM3 jq3_56 ?_
            obtain ⟨c14, h14⟩ := jo_i h13
            refine jw_aald (p := 58) rfl jM3 jq3_57 (ja_4 s11.1) (Or.inl rfl) c14.1 c14.2 (jb_Fqd s11.1 c14.1 c14.2) ?_
            cases h14
            exact jw_aret jM3 jq3_58 (k σ11 s11)
          · have h13 := jo_n c13 h12
            refine jw_null (p := 46) rfl jM3 jq3_45 ?_
            refine jw_goto jM3 jq3_46 ?_
            cases h13
            exact jw_aret jM3 jq3_58 (k σ11 s11)
        · have h10 := jo_n c10 h5
          refine jaL0 (p := 28) rfl jM3 jq3_27 ?_
          refine jw_getP (p := 31) (i := 1) (q := 67) rfl jM3 jq3_28 rfl (jo_66 s3.1) je_0_1 (jp_66_1 s3.1) ?_
          refine jiL2 (p := 32) rfl jM3 jq3_31 ?_
          obtain ⟨c15, h15⟩ := jo_i h10
          refine jw_aald (p := 33) rfl jM3 jq3_32 (ja_67 s3.1) (Or.inl rfl) c15.1 c15.2 (jb_Fqf s3.1 c15.1 c15.2) ?_
          cases h15
          exact jw_aret jM3 jq3_33 (k σ3 s3)
    · have h2 := jo_n c2 h1
      refine jw_null (p := 11) rfl jM3 jq3_10 ?_
      cases h2
      exact jw_aret jM3 jq3_11 (k σ s)
-- 4 PageLoom$Cache.kindSeen need 2
def fc4 (K : jc_K) (l1 : Int) : Option (jc_K × Int) := (fc3 K l1).bind fun x1 => if x1.2 = 0 then (some (x1.1, (-1))) else (if jc_pg (x1.1) (x1.2) then some (x1.1, jc_i (x1.1) (x1.2) 0) else none)
theorem jd4 {d : Nat} {σ0 : ib_H} {Q : ib_O → Prop} {K : jc_K} {l1 : Int} (hl1 : jb_r l1) {r : (jc_K × Int)} (h : fc4 K l1 = some r) (k : ∀ σ, jc_S σ0 r.1 σ → jb_r r.2 → Q (.inl (some (jb_v r.2)), σ)) : jc_W σ0 K (d + 2) 4 0 [some (.ref 66), some (jb_v l1), none] [] Q := by
  intro σ s
  unfold fc4 at h
  refine jaL0 (p := 1) rfl jM4 jq4_0 ?_
  refine jiL1 (p := 2) rfl jM4 jq4_1 ?_
  refine jw_callV [(jb_v l1)] jM4 jq4_2 rfl rfl (jo_66 s.1) rfl jM3 rfl rfl ?_
  obtain ⟨x1, b2, h2⟩ := jo_b h
  refine jd3 hl1 b2 (fun σ1 s1 => ?_) σ s
  show jb_w (d + 2) 4 5 [some (.ref 66), some (jb_v l1), none] [(.ref (x1.2))] σ1 Q
  refine jaS2 (p := 6) rfl jM4 jq4_5 ?_
  refine jaL2 (p := 7) rfl jM4 jq4_6 ?_
  refine jw_ifnonnull (p := 10) rfl jM4 jq4_7 (fun c3 => ?_) (fun c3 => ?_)
  · have h3 := jo_n c3 h2
    refine jaL2 (p := 15) rfl jM4 jq4_14 ?_
    obtain ⟨c4, h4⟩ := jo_i h3
    refine jc_getI (p := 18) (i := 0) rfl jM4 jq4_15 rfl (s1.pg c4).ob jn_4_0 s1 (jc_pgd c4) (by decide) rfl ?_
    cases h4
    exact jw_iret jM4 jq4_18 (fun z => absurd z (by decide)) (k σ1 s1 (s1.r _ _))
  · have h3 := jo_p c3 h2
    refine jw_iconst (p := 11) rfl jM4 jq4_10 ?_
    refine jw_goto jM4 jq4_11 ?_
    cases h3
    exact jw_iret jM4 jq4_18 (fun z => absurd z (by decide)) (k σ1 s1 (jb_rn rfl))
-- 6 PageLoom$Cache.takeFrame need 0
def fc6_4 : Nat → jc_K → Int → Int → Option (jc_K × Int)
  | 0, _, _, _ => none
  | m + 1, K, l1, l2 => if 4 < l2 then (some (K, l1)) else (if jc_i K 66 5 < 0 then (if jc_i K 68 0 = (-1) then (some (jc_ui K 66 5 ((((0 : Int) + 1) : Int) % 4), 0)) else (if jc_i K 69 0 = 0 then (some (jc_ui K 66 5 ((((0 : Int) + 1) : Int) % 4), 0)) else (if -2147483648 ≤ (l2 + 1) ∧ (l2 + 1) < 2147483648 then fc6_4 m (jc_ui (jc_ui K 66 5 ((((0 : Int) + 1) : Int) % 4)) 69 0 0) 0 (l2 + 1) else none))) else (if 4 ≤ jc_i K 66 5 then (if jc_i K 68 0 = (-1) then (some (jc_ui K 66 5 ((((0 : Int) + 1) : Int) % 4), 0)) else (if jc_i K 69 0 = 0 then (some (jc_ui K 66 5 ((((0 : Int) + 1) : Int) % 4), 0)) else (if -2147483648 ≤ (l2 + 1) ∧ (l2 + 1) < 2147483648 then fc6_4 m (jc_ui (jc_ui K 66 5 ((((0 : Int) + 1) : Int) % 4)) 69 0 0) 0 (l2 + 1) else none))) else (if -2147483648 ≤ ((jc_i K 66 5) + 1) ∧ ((jc_i K 66 5) + 1) < 2147483648 then if 0 ≤ ((jc_i K 66 5) + 1) then if 0 ≤ (jc_i K 66 5) ∧ (jc_i K 66 5) < 4 then if jc_i K 68 (jc_i K 66 5) = (-1) then (some (jc_ui K 66 5 (((jc_i K 66 5) + 1) % 4), jc_i K 66 5)) else (if jc_i K 69 (jc_i K 66 5) = 0 then (some (jc_ui K 66 5 (((jc_i K 66 5) + 1) % 4), jc_i K 66 5)) else (if -2147483648 ≤ (l2 + 1) ∧ (l2 + 1) < 2147483648 then fc6_4 m (jc_ui (jc_ui K 66 5 (((jc_i K 66 5) + 1) % 4)) 69 (jc_i K 66 5) 0) (jc_i K 66 5) (l2 + 1) else none)) else none else none else none)))
theorem jd6_4 {d : Nat} {σ0 : ib_H} {Q : ib_O → Prop} : ∀ (m : Nat) {K : jc_K} {l1 : Int} {l2 : Int} (hl1 : jb_r l1) (hl2 : jb_r l2) {r : (jc_K × Int)} (h : fc6_4 m K l1 l2 = some r) (k : ∀ σ, jc_S σ0 r.1 σ → jb_r r.2 → Q (.inl (some (jb_v r.2)), σ)), jc_W σ0 K d 6 4 [some (.ref 66), some (jb_v l1), some (jb_v l2)] [] Q := by
  intro m
  induction m with
  | zero =>
    intro K l1 l2 hl1 hl2 r h k
    cases h
  | succ m ih =>
    intro K l1 l2 hl1 hl2 r h k σ s
    unfold fc6_4 at h
    refine jiL2 (p := 5) rfl jM6 jq6_4 ?_
    refine jw_iconst (p := 6) rfl jM6 jq6_5 ?_
    refine jw_ic (p := 9) rfl jM6 jq6_6 (jc_gt hl2 (jb_rn rfl)) (fun c1 => ?_) (fun c1 => ?_)
    · have h1 := jo_p c1 h
      refine jiL1 (p := 77) rfl jM6 jq6_76 ?_
      cases h1
      exact jw_iret jM6 jq6_77 (fun z => absurd z (by decide)) (k σ s hl1)
    · have h1 := jo_n c1 h
      refine jaL0 (p := 10) rfl jM6 jq6_9 ?_
      refine jc_getI (p := 13) (i := 5) rfl jM6 jq6_10 rfl (jo_66 s.1) jn_0_5 s (by decide) (by decide) rfl ?_
      refine jw_if (p := 16) rfl jM6 jq6_13 (jc_lt (s.r _ _) jb_r0) (fun c2 => ?_) (fun c2 => ?_)
      · have h2 := jo_p c2 h1
        refine jw_iconst (p := 32) rfl jM6 jq6_31 ?_
        refine jiS1 (p := 33) rfl jM6 jq6_32 ?_
        refine jaL0 (p := 34) rfl jM6 jq6_33 ?_
        refine jiL1 (p := 35) rfl jM6 jq6_34 ?_
        refine jw_iconst (p := 36) rfl jM6 jq6_35 ?_
        refine jw_iadd (p := 37) rfl jM6 jq6_36 ?_
        refine jw_iconst (p := 38) rfl jM6 jq6_37 ?_
        refine jw_irem (p := 39) rfl jM6 jq6_38 (jb_nn rfl) (jb_rn rfl) (by decide) (jb_rn rfl) ?_
        refine jc_putI (p := 42) (i := 5) rfl jM6 jq6_39 rfl (jo_66 s.1) (Or.inl jz_0_5) s (by decide) (by decide) (jb_r_rem (jb_nn rfl) (jb_rn rfl) (by decide)) ?_
        intro σ3 s3
        refine jaL0 (p := 43) rfl jM6 jq6_42 ?_
        refine jw_getP (p := 46) (i := 2) (q := 68) rfl jM6 jq6_43 rfl (jo_66 s3.1) je_0_2 (jp_66_2 s3.1) ?_
        refine jiL1 (p := 47) rfl jM6 jq6_46 ?_
        refine jc_iald (p := 48) rfl jM6 jq6_47 (ja_68 s3.1) (by decide) (by decide) s3 (by decide) (jc_uN (by decide)) ?_
        refine jw_iconst (p := 49) rfl jM6 jq6_48 ?_
        refine jw_ic (p := 52) rfl jM6 jq6_49 (jc_eq (s.r _ _) (jb_rn rfl)) (fun c4 => ?_) (fun c4 => ?_)
        · have h4 := jo_p c4 h2
          refine jiL1 (p := 62) rfl jM6 jq6_61 ?_
          cases h4
          exact jw_iret jM6 jq6_62 (fun z => absurd z (by decide)) (k σ3 s3 (jb_rn rfl))
        · have h4 := jo_n c4 h2
          refine jaL0 (p := 53) rfl jM6 jq6_52 ?_
          refine jw_getP (p := 56) (i := 3) (q := 69) rfl jM6 jq6_53 rfl (jo_66 s3.1) je_0_3 (jp_66_3 s3.1) ?_
          refine jiL1 (p := 57) rfl jM6 jq6_56 ?_
          refine jc_bald (p := 58) rfl jM6 jq6_57 (ja_69 s3.1) (by decide) (by decide) s3 (by decide) (jc_uN (by decide)) ?_
          refine jw_if (p := 61) rfl jM6 jq6_58 (jc_ne (s.r _ _) jb_r0) (fun c5 => ?_) (fun c5 => ?_)
          · have h5 := jo_n c5 h4
            refine jaL0 (p := 64) rfl jM6 jq6_63 ?_
            refine jw_getP (p := 67) (i := 3) (q := 69) rfl jM6 jq6_64 rfl (jo_66 s3.1) je_0_3 (jp_66_3 s3.1) ?_
            refine jiL1 (p := 68) rfl jM6 jq6_67 ?_
            refine jw_iconst (p := 69) rfl jM6 jq6_68 ?_
            refine jc_bast (p := 70) rfl jM6 jq6_69 (ja_69 s3.1) (by decide) (by decide) (Or.inl rfl) s3 (by decide) ?_
            intro σ6 s6
            refine jiI2 (p := 73) rfl jM6 jq6_70 ?_
            refine jw_goto jM6 jq6_73 ?_
            obtain ⟨c7, h7⟩ := jo_i h5
            exact ih (jb_rn rfl) c7 h7 k σ6 s6
          · have h5 := jo_p (Decidable.byContradiction c5) h4
            refine jiL1 (p := 62) rfl jM6 jq6_61 ?_
            cases h5
            exact jw_iret jM6 jq6_62 (fun z => absurd z (by decide)) (k σ3 s3 (jb_rn rfl))
      · have h2 := jo_n c2 h1
        refine jaL0 (p := 17) rfl jM6 jq6_16 ?_
        refine jc_getI (p := 20) (i := 5) rfl jM6 jq6_17 rfl (jo_66 s.1) jn_0_5 s (by decide) (by decide) rfl ?_
        refine jw_iconst (p := 21) rfl jM6 jq6_20 ?_
        refine jw_ic (p := 24) rfl jM6 jq6_21 (jc_ge (s.r _ _) (jb_rn rfl)) (fun c8 => ?_) (fun c8 => ?_)
        · have h8 := jo_p c8 h2
          refine jw_iconst (p := 32) rfl jM6 jq6_31 ?_
          refine jiS1 (p := 33) rfl jM6 jq6_32 ?_
          refine jaL0 (p := 34) rfl jM6 jq6_33 ?_
          refine jiL1 (p := 35) rfl jM6 jq6_34 ?_
          refine jw_iconst (p := 36) rfl jM6 jq6_35 ?_
          refine jw_iadd (p := 37) rfl jM6 jq6_36 ?_
          refine jw_iconst (p := 38) rfl jM6 jq6_37 ?_
          refine jw_irem (p := 39) rfl jM6 jq6_38 (jb_nn rfl) (jb_rn rfl) (by decide) (jb_rn rfl) ?_
          refine jc_putI (p := 42) (i := 5) rfl jM6 jq6_39 rfl (jo_66 s.1) (Or.inl jz_0_5) s (by decide) (by decide) (jb_r_rem (jb_nn rfl) (jb_rn rfl) (by decide)) ?_
          intro σ9 s9
          refine jaL0 (p := 43) rfl jM6 jq6_42 ?_
          refine jw_getP (p := 46) (i := 2) (q := 68) rfl jM6 jq6_43 rfl (jo_66 s9.1) je_0_2 (jp_66_2 s9.1) ?_
          refine jiL1 (p := 47) rfl jM6 jq6_46 ?_
          refine jc_iald (p := 48) rfl jM6 jq6_47 (ja_68 s9.1) (by decide) (by decide) s9 (by decide) (jc_uN (by decide)) ?_
          refine jw_iconst (p := 49) rfl jM6 jq6_48 ?_
          refine jw_ic (p := 52) rfl jM6 jq6_49 (jc_eq (s.r _ _) (jb_rn rfl)) (fun c10 => ?_) (fun c10 => ?_)
          · have h10 := jo_p c10 h8
            refine jiL1 (p := 62) rfl jM6 jq6_61 ?_
            cases h10
            exact jw_iret jM6 jq6_62 (fun z => absurd z (by decide)) (k σ9 s9 (jb_rn rfl))
          · have h10 := jo_n c10 h8
            refine jaL0 (p := 53) rfl jM6 jq6_52 ?_
            refine jw_getP (p := 56) (i := 3) (q := 69) rfl jM6 jq6_53 rfl (jo_66 s9.1) je_0_3 (jp_66_3 s9.1) ?_
            refine jiL1 (p := 57) rfl jM6 jq6_56 ?_
            refine jc_bald (p := 58) rfl jM6 jq6_57 (ja_69 s9.1) (by decide) (by decide) s9 (by decide) (jc_uN (by decide)) ?_
            refine jw_if (p := 61) rfl jM6 jq6_58 (jc_ne (s.r _ _) jb_r0) (fun c11 => ?_) (fun c11 => ?_)
            · have h11 := jo_n c11 h10
              refine jaL0 (p := 64) rfl jM6 jq6_63 ?_
              refine jw_getP (p := 67) (i := 3) (q := 69) rfl jM6 jq6_64 rfl (jo_66 s9.1) je_0_3 (jp_66_3 s9.1) ?_
              refine jiL1 (p := 68) rfl jM6 jq6_67 ?_
              refine jw_iconst (p := 69) rfl jM6 jq6_68 ?_
              refine jc_bast (p := 70) rfl jM6 jq6_69 (ja_69 s9.1) (by decide) (by decide) (Or.inl rfl) s9 (by decide) ?_
              intro σ12 s12
              refine jiI2 (p := 73) rfl jM6 jq6_70 ?_
              refine jw_goto jM6 jq6_73 ?_
              obtain ⟨c13, h13⟩ := jo_i h11
              exact ih (jb_rn rfl) c13 h13 k σ12 s12
            · have h11 := jo_p (Decidable.byContradiction c11) h10
              refine jiL1 (p := 62) rfl jM6 jq6_61 ?_
              cases h11
              exact jw_iret jM6 jq6_62 (fun z => absurd z (by decide)) (k σ9 s9 (jb_rn rfl))
        · have h8 := jo_n c8 h2
          refine jaL0 (p := 25) rfl jM6 jq6_24 ?_
          refine jc_getI (p := 28) (i := 5) rfl jM6 jq6_25 rfl (jo_66 s.1) jn_0_5 s (by decide) (by decide) rfl ?_
          refine jw_goto jM6 jq6_28 ?_
          refine jiS1 (p := 33) rfl jM6 jq6_32 ?_
          refine jaL0 (p := 34) rfl jM6 jq6_33 ?_
          refine jiL1 (p := 35) rfl jM6 jq6_34 ?_
          refine jw_iconst (p := 36) rfl jM6 jq6_35 ?_
          refine jw_iadd (p := 37) rfl jM6 jq6_36 ?_
          refine jw_iconst (p := 38) rfl jM6 jq6_37 ?_
          obtain ⟨c14, h14⟩ := jo_i h8
          obtain ⟨c15, h15⟩ := jo_i h14
          refine jw_irem (p := 39) rfl jM6 jq6_38 c15 c14 (by decide) (jb_rn rfl) ?_
          refine jc_putI (p := 42) (i := 5) rfl jM6 jq6_39 rfl (jo_66 s.1) (Or.inl jz_0_5) s (by decide) (by decide) (jb_r_rem c15 c14 (by decide)) ?_
          intro σ16 s16
          refine jaL0 (p := 43) rfl jM6 jq6_42 ?_
          refine jw_getP (p := 46) (i := 2) (q := 68) rfl jM6 jq6_43 rfl (jo_66 s16.1) je_0_2 (jp_66_2 s16.1) ?_
          refine jiL1 (p := 47) rfl jM6 jq6_46 ?_
          obtain ⟨c17, h17⟩ := jo_i h15
          refine jc_iald (p := 48) rfl jM6 jq6_47 (ja_68 s16.1) c17.1 c17.2 s16 (by decide) (jc_uN (by decide)) ?_
          refine jw_iconst (p := 49) rfl jM6 jq6_48 ?_
          refine jw_ic (p := 52) rfl jM6 jq6_49 (jc_eq (s.r _ _) (jb_rn rfl)) (fun c18 => ?_) (fun c18 => ?_)
          · have h18 := jo_p c18 h17
            refine jiL1 (p := 62) rfl jM6 jq6_61 ?_
            cases h18
            exact jw_iret jM6 jq6_62 (fun z => absurd z (by decide)) (k σ16 s16 (s.r _ _))
          · have h18 := jo_n c18 h17
            refine jaL0 (p := 53) rfl jM6 jq6_52 ?_
            refine jw_getP (p := 56) (i := 3) (q := 69) rfl jM6 jq6_53 rfl (jo_66 s16.1) je_0_3 (jp_66_3 s16.1) ?_
            refine jiL1 (p := 57) rfl jM6 jq6_56 ?_
            refine jc_bald (p := 58) rfl jM6 jq6_57 (ja_69 s16.1) c17.1 c17.2 s16 (by decide) (jc_uN (by decide)) ?_
            refine jw_if (p := 61) rfl jM6 jq6_58 (jc_ne (s.r _ _) jb_r0) (fun c19 => ?_) (fun c19 => ?_)
            · have h19 := jo_n c19 h18
              refine jaL0 (p := 64) rfl jM6 jq6_63 ?_
              refine jw_getP (p := 67) (i := 3) (q := 69) rfl jM6 jq6_64 rfl (jo_66 s16.1) je_0_3 (jp_66_3 s16.1) ?_
              refine jiL1 (p := 68) rfl jM6 jq6_67 ?_
              refine jw_iconst (p := 69) rfl jM6 jq6_68 ?_
              refine jc_bast (p := 70) rfl jM6 jq6_69 (ja_69 s16.1) c17.1 c17.2 (Or.inl rfl) s16 (by decide) ?_
              intro σ20 s20
              refine jiI2 (p := 73) rfl jM6 jq6_70 ?_
              refine jw_goto jM6 jq6_73 ?_
              obtain ⟨c21, h21⟩ := jo_i h19
              exact ih (s.r _ _) c21 h21 k σ20 s20
            · have h19 := jo_p (Decidable.byContradiction c19) h18
              refine jiL1 (p := 62) rfl jM6 jq6_61 ?_
              cases h19
              exact jw_iret jM6 jq6_62 (fun z => absurd z (by decide)) (k σ16 s16 (s.r _ _))
def fc6 (K : jc_K) : Option (jc_K × Int) := fc6_4 jo_N K 0 0
theorem jd6 {d : Nat} {σ0 : ib_H} {Q : ib_O → Prop} {K : jc_K} {r : (jc_K × Int)} (h : fc6 K  = some r) (k : ∀ σ, jc_S σ0 r.1 σ → jb_r r.2 → Q (.inl (some (jb_v r.2)), σ)) : jc_W σ0 K d 6 0 [some (.ref 66), none, none] [] Q := by
  intro σ s
  unfold fc6 at h
  refine jw_iconst (p := 1) rfl jM6 jq6_0 ?_
  refine jiS1 (p := 2) rfl jM6 jq6_1 ?_
  refine jw_iconst (p := 3) rfl jM6 jq6_2 ?_
  refine jiS2 (p := 4) rfl jM6 jq6_3 ?_
  exact jd6_4 jo_N (jb_rn rfl) (jb_rn rfl) h k σ s
-- 12 PageLoom$Disk.doWrites need 0
def fc12 (K : jc_K) (l1 : Int) : Option (jc_K × Int) := if jc_i K 3 10 ≤ 0 then (some (jc_ui K 3 9 (jb_m ((jc_i K 3 9) + l1)), l1)) else (if l1 < jc_i K 3 10 then (if -2147483648 ≤ ((jc_i K 3 10) - l1) ∧ ((jc_i K 3 10) - l1) < 2147483648 then some (jc_ui (jc_ui K 3 10 ((jc_i K 3 10) - l1)) 3 9 (jb_m ((jc_i K 3 9) + l1)), l1) else none) else (if -2147483648 ≤ ((jc_i K 3 10) - 1) ∧ ((jc_i K 3 10) - 1) < 2147483648 then some (jc_ui (jc_ui K 3 10 0) 3 9 (jb_m ((jc_i K 3 9) + ((jc_i K 3 10) - 1))), (jc_i K 3 10) - 1) else none))
theorem jd12 {d : Nat} {σ0 : ib_H} {Q : ib_O → Prop} {K : jc_K} {l1 : Int} (hl1 : jb_r l1) {r : (jc_K × Int)} (h : fc12 K l1 = some r) (k : ∀ σ, jc_S σ0 r.1 σ → jb_r r.2 → Q (.inl (some (jb_v r.2)), σ)) : jc_W σ0 K d 12 0 [some (.ref 3), some (jb_v l1), none] [] Q := by
  intro σ s
  unfold fc12 at h
  refine jiL1 (p := 1) rfl jM12 jq12_0 ?_
  refine jiS2 (p := 2) rfl jM12 jq12_1 ?_
  refine jaL0 (p := 3) rfl jM12 jq12_2 ?_
  refine jc_getI (p := 6) (i := 10) rfl jM12 jq12_3 rfl (jo_3 s.1) jn_1_10 s (by decide) (by decide) rfl ?_
  refine jw_if (p := 9) rfl jM12 jq12_6 (jc_le (s.r _ _) jb_r0) (fun c1 => ?_) (fun c1 => ?_)
  · have h1 := jo_p c1 h
    refine jaL0 (p := 33) rfl jM12 jq12_32 ?_
    refine jc_getI (p := 36) (i := 10) rfl jM12 jq12_33 rfl (jo_3 s.1) jn_1_10 s (by decide) (by decide) rfl ?_
    refine jw_if (p := 39) rfl jM12 jq12_36 (jc_le (s.r _ _) jb_r0) (fun _ => ?_) (fun z => absurd c1 z)
    refine jaL0 (p := 50) rfl jM12 jq12_49 ?_
    refine jw_dupA (p := 51) rfl jM12 jq12_50 ?_
    refine jc_getI (p := 54) (i := 9) rfl jM12 jq12_51 rfl (jo_3 s.1) jn_1_9 s (by decide) (by decide) rfl ?_
    refine jiL2 (p := 55) rfl jM12 jq12_54 ?_
    refine jw_iadd (p := 56) rfl jM12 jq12_55 ?_
    refine jc_putM (p := 59) (i := 9) rfl jM12 jq12_56 rfl (jo_3 s.1) (Or.inl jz_1_9) s (by decide) (by decide) ?_
    intro σ2 s2
    refine jiL2 (p := 60) rfl jM12 jq12_59 ?_
    cases h1
    exact jw_iret jM12 jq12_60 (fun z => absurd z (by decide)) (k σ2 s2 hl1)
  · have h1 := jo_n c1 h
    refine jaL0 (p := 10) rfl jM12 jq12_9 ?_
    refine jc_getI (p := 13) (i := 10) rfl jM12 jq12_10 rfl (jo_3 s.1) jn_1_10 s (by decide) (by decide) rfl ?_
    refine jiL1 (p := 14) rfl jM12 jq12_13 ?_
    refine jw_ic (p := 17) rfl jM12 jq12_14 (jc_gt (s.r _ _) hl1) (fun c3 => ?_) (fun c3 => ?_)
    · have h3 := jo_p c3 h1
      refine jaL0 (p := 33) rfl jM12 jq12_32 ?_
      refine jc_getI (p := 36) (i := 10) rfl jM12 jq12_33 rfl (jo_3 s.1) jn_1_10 s (by decide) (by decide) rfl ?_
      refine jw_if (p := 39) rfl jM12 jq12_36 (jc_le (s.r _ _) jb_r0) (fun z => absurd z c1) (fun _ => ?_)
      refine jaL0 (p := 40) rfl jM12 jq12_39 ?_
      refine jw_dupA (p := 41) rfl jM12 jq12_40 ?_
      refine jc_getI (p := 44) (i := 10) rfl jM12 jq12_41 rfl (jo_3 s.1) jn_1_10 s (by decide) (by decide) rfl ?_
      refine jiL1 (p := 45) rfl jM12 jq12_44 ?_
      refine jw_isub (p := 46) rfl jM12 jq12_45 ?_
      obtain ⟨c4, h4⟩ := jo_i h3
      refine jc_putI (p := 49) (i := 10) rfl jM12 jq12_46 rfl (jo_3 s.1) (Or.inl jz_1_10) s (by decide) (by decide) c4 ?_
      intro σ5 s5
      refine jaL0 (p := 50) rfl jM12 jq12_49 ?_
      refine jw_dupA (p := 51) rfl jM12 jq12_50 ?_
      refine jc_getI (p := 54) (i := 9) rfl jM12 jq12_51 rfl (jo_3 s5.1) jn_1_9 s5 (by decide) (by decide) (jc_uI (by decide)) ?_
      refine jiL2 (p := 55) rfl jM12 jq12_54 ?_
      refine jw_iadd (p := 56) rfl jM12 jq12_55 ?_
      refine jc_putM (p := 59) (i := 9) rfl jM12 jq12_56 rfl (jo_3 s5.1) (Or.inl jz_1_9) s5 (by decide) (by decide) ?_
      intro σ6 s6
      refine jiL2 (p := 60) rfl jM12 jq12_59 ?_
      cases h4
      exact jw_iret jM12 jq12_60 (fun z => absurd z (by decide)) (k σ6 s6 hl1)
    · have h3 := jo_n c3 h1
      refine jaL0 (p := 18) rfl jM12 jq12_17 ?_
      refine jc_getI (p := 21) (i := 10) rfl jM12 jq12_18 rfl (jo_3 s.1) jn_1_10 s (by decide) (by decide) rfl ?_
      refine jw_iconst (p := 22) rfl jM12 jq12_21 ?_
      refine jw_isub (p := 23) rfl jM12 jq12_22 ?_
      refine jiS2 (p := 24) rfl jM12 jq12_23 ?_
      refine jaL0 (p := 25) rfl jM12 jq12_24 ?_
      refine jw_iconst (p := 26) rfl jM12 jq12_25 ?_
      refine jc_putI (p := 29) (i := 10) rfl jM12 jq12_26 rfl (jo_3 s.1) (Or.inl jz_1_10) s (by decide) (by decide) (jb_rn rfl) ?_
      intro σ7 s7
      refine jw_goto jM12 jq12_29 ?_
      refine jaL0 (p := 50) rfl jM12 jq12_49 ?_
      refine jw_dupA (p := 51) rfl jM12 jq12_50 ?_
      refine jc_getI (p := 54) (i := 9) rfl jM12 jq12_51 rfl (jo_3 s7.1) jn_1_9 s7 (by decide) (by decide) (jc_uI (by decide)) ?_
      refine jiL2 (p := 55) rfl jM12 jq12_54 ?_
      refine jw_iadd (p := 56) rfl jM12 jq12_55 ?_
      refine jc_putM (p := 59) (i := 9) rfl jM12 jq12_56 rfl (jo_3 s7.1) (Or.inl jz_1_9) s7 (by decide) (by decide) ?_
      intro σ8 s8
      refine jiL2 (p := 60) rfl jM12 jq12_59 ?_
      obtain ⟨c9, h9⟩ := jo_i h3
      cases h9
      exact jw_iret jM12 jq12_60 (fun z => absurd z (by decide)) (k σ8 s8 c9)
-- 35 PageLoom$Page.become need 0
def fc35_26 : Nat → jc_K → Nat → Nat → Int → Option (jc_K × Int)
  | 0, _, _, _, _ => none
  | m + 1, K, l0, l1, l2 => if jc_pg K l0 then if jc_i K l0 2 ≤ l2 then (some (K, 0)) else (if 32 ≤ l2 then (some (K, 0)) else (if jc_pg K l1 then if 0 ≤ l2 ∧ l2 < 32 then if -2147483648 ≤ (l2 + 1) ∧ (l2 + 1) < 2147483648 then fc35_26 m (jc_ui K (l0 + 1) l2 (jc_i K (l1 + 1) l2)) l0 l1 (l2 + 1) else none else none else none)) else none
theorem jd35_26 {d : Nat} {σ0 : ib_H} {Q : ib_O → Prop} : ∀ (m : Nat) {K : jc_K} {l0 : Nat} {l1 : Nat} {l2 : Int} (hl2 : jb_r l2) {r : (jc_K × Int)} (h : fc35_26 m K l0 l1 l2 = some r) (k : ∀ σ, jc_S σ0 r.1 σ → Q (.inl none, σ)), jc_W σ0 K d 35 26 [some (.ref l0), some (.ref l1), some (jb_v l2)] [] Q := by
  intro m
  induction m with
  | zero =>
    intro K l0 l1 l2 hl2 r h k
    cases h
  | succ m ih =>
    intro K l0 l1 l2 hl2 r h k σ s
    unfold fc35_26 at h
    refine jiL2 (p := 27) rfl jM35 jq35_26 ?_
    refine jaL0 (p := 28) rfl jM35 jq35_27 ?_
    obtain ⟨c1, h1⟩ := jo_i h
    refine jc_getI (p := 31) (i := 2) rfl jM35 jq35_28 rfl (s.pg c1).ob jn_4_2 s (jc_pgd c1) (by decide) rfl ?_
    refine jw_ic (p := 34) rfl jM35 jq35_31 (jc_ge hl2 (s.r _ _)) (fun c2 => ?_) (fun c2 => ?_)
    · have h2 := jo_p c2 h1
      cases h2
      exact jw_vret jM35 jq35_58 (k σ s)
    · have h2 := jo_n c2 h1
      refine jiL2 (p := 35) rfl jM35 jq35_34 ?_
      refine jw_bipush (p := 37) rfl jM35 jq35_35 (by decide) ?_
      refine jw_ic (p := 40) rfl jM35 jq35_37 (jc_ge hl2 (jb_rn rfl)) (fun c3 => ?_) (fun c3 => ?_)
      · have h3 := jo_p c3 h2
        cases h3
        exact jw_vret jM35 jq35_58 (k σ s)
      · have h3 := jo_n c3 h2
        refine jaL0 (p := 41) rfl jM35 jq35_40 ?_
        refine jw_getP (p := 44) (i := 3) rfl jM35 jq35_41 rfl (s.pg c1).ob je_4_3 (s.pg c1).pc ?_
        refine jiL2 (p := 45) rfl jM35 jq35_44 ?_
        refine jaL1 (p := 46) rfl jM35 jq35_45 ?_
        obtain ⟨c4, h4⟩ := jo_i h3
        refine jw_getP (p := 49) (i := 3) rfl jM35 jq35_46 rfl (s.pg c4).ob je_4_3 (s.pg c4).pc ?_
        refine jiL2 (p := 50) rfl jM35 jq35_49 ?_
        obtain ⟨c5, h5⟩ := jo_i h4
        refine jc_iald (p := 51) rfl jM35 jq35_50 (s.pg c4).ar c5.1 c5.2 s (jc_pgd1 c4) rfl ?_
        refine jc_iast (p := 52) rfl jM35 jq35_51 (s.pg c1).ar c5.1 c5.2 s (jc_pgd1 c1) (s.r _ _) ?_
        intro σ6 s6
        refine jiI2 (p := 55) rfl jM35 jq35_52 ?_
        refine jw_goto jM35 jq35_55 ?_
        obtain ⟨c7, h7⟩ := jo_i h5
        exact ih c7 h7 k σ6 s6
def fc35 (K : jc_K) (l0 : Nat) (l1 : Nat) : Option (jc_K × Int) := if jc_pg K l1 then if jc_pg K l0 then fc35_26 jo_N (jc_ui (jc_ui (jc_ui K l0 0 (jc_i K l1 0)) l0 1 (jc_i (jc_ui K l0 0 (jc_i K l1 0)) l1 1)) l0 2 (jc_i (jc_ui (jc_ui K l0 0 (jc_i K l1 0)) l0 1 (jc_i (jc_ui K l0 0 (jc_i K l1 0)) l1 1)) l1 2)) l0 l1 0 else none else none
theorem jd35 {d : Nat} {σ0 : ib_H} {Q : ib_O → Prop} {K : jc_K} {l0 : Nat} {l1 : Nat} {r : (jc_K × Int)} (h : fc35 K l0 l1 = some r) (k : ∀ σ, jc_S σ0 r.1 σ → Q (.inl none, σ)) : jc_W σ0 K d 35 0 [some (.ref l0), some (.ref l1), none] [] Q := by
  intro σ s
  unfold fc35 at h
  refine jaL0 (p := 1) rfl jM35 jq35_0 ?_
  refine jaL1 (p := 2) rfl jM35 jq35_1 ?_
  obtain ⟨c1, h1⟩ := jo_i h
  refine jc_getI (p := 5) (i := 0) rfl jM35 jq35_2 rfl (s.pg c1).ob jn_4_0 s (jc_pgd c1) (by decide) rfl ?_
  obtain ⟨c2, h2⟩ := jo_i h1
  refine jc_putI (p := 8) (i := 0) rfl jM35 jq35_5 rfl (s.pg c2).ob (Or.inl jz_4_0) s (jc_pgd c2) (by decide) (s.r _ _) ?_
  intro σ3 s3
  refine jaL0 (p := 9) rfl jM35 jq35_8 ?_
  refine jaL1 (p := 10) rfl jM35 jq35_9 ?_
  refine jc_getI (p := 13) (i := 1) rfl jM35 jq35_10 rfl (s3.pg c1).ob jn_4_1 s3 (jc_pgd c1) (by decide) rfl ?_
  refine jc_putI (p := 16) (i := 1) rfl jM35 jq35_13 rfl (s3.pg c2).ob (Or.inl jz_4_1) s3 (jc_pgd c2) (by decide) (s3.r _ _) ?_
  intro σ4 s4
  refine jaL0 (p := 17) rfl jM35 jq35_16 ?_
  refine jaL1 (p := 18) rfl jM35 jq35_17 ?_
  refine jc_getI (p := 21) (i := 2) rfl jM35 jq35_18 rfl (s4.pg c1).ob jn_4_2 s4 (jc_pgd c1) (by decide) rfl ?_
  refine jc_putI (p := 24) (i := 2) rfl jM35 jq35_21 rfl (s4.pg c2).ob (Or.inl jz_4_2) s4 (jc_pgd c2) (by decide) (s4.r _ _) ?_
  intro σ5 s5
  refine jw_iconst (p := 25) rfl jM35 jq35_24 ?_
  refine jiS2 (p := 26) rfl jM35 jq35_25 ?_
  exact jd35_26 jo_N (jb_rn rfl) h2 k σ5 s5
-- 14 PageLoom$Disk.writePage need 1
def fc14_173 (K : jc_K) (l1 : Int) (l2 : Nat) (l3 : Int) (l4 : Int) (l5 : Int) : Option (jc_K × Int) := if l5 = 4 then (some (K, 1)) else (some (K, 0))
theorem jd14_173 {d : Nat} {σ0 : ib_H} {Q : ib_O → Prop} {K : jc_K} {l1 : Int} {l2 : Nat} {l3 : Int} {l4 : Int} {l5 : Int} (hl1 : jb_r l1) (hl3 : jb_r l3) (hl4 : jb_r l4) (hl5 : jb_r l5) {r : (jc_K × Int)} (h : fc14_173 K l1 l2 l3 l4 l5 = some r) (k : ∀ σ, jc_S σ0 r.1 σ → jb_r r.2 → Q (.inl (some (jb_v r.2)), σ)) : jc_W σ0 K (d + 1) 14 173 [some (.ref 3), some (jb_v l1), some (.ref l2), some (jb_v l3), some (jb_v l4), some (jb_v l5)] [] Q := by
  intro σ s
  unfold fc14_173 at h
  refine jiL5 (p := 175) rfl jM14 jq14_173 ?_
  refine jw_iconst (p := 176) rfl jM14 jq14_175 ?_
  refine jw_ic (p := 179) rfl jM14 jq14_176 (jc_ne hl5 (jb_rn rfl)) (fun c1 => ?_) (fun c1 => ?_)
  · have h1 := jo_n c1 h
    refine jw_iconst (p := 184) rfl jM14 jq14_183 ?_
    cases h1
    exact jw_iret jM14 jq14_184 (fun _ => Or.inl rfl) (k σ s (jb_rn rfl))
  · have h1 := jo_p (Decidable.byContradiction c1) h
    refine jw_iconst (p := 180) rfl jM14 jq14_179 ?_
    refine jw_goto jM14 jq14_180 ?_
    cases h1
    exact jw_iret jM14 jq14_184 (fun _ => Or.inr rfl) (k σ s (jb_rn rfl))
def fc14_147 (K : jc_K) (l1 : Int) (l2 : Nat) (l3 : Int) (l4 : Int) (l5 : Int) : Option (jc_K × Int) := if l5 ≤ 3 then (fc14_173 K l1 l2 l3 l4 l5) else (if 0 ≤ l1 ∧ l1 < 24 then (fc35 (jc_ui K 6 l1 (jc_i K 3 7)) (9 + 2 * Int.toNat l1) l2).bind fun x4 => fc14_173 (x4.1) l1 l2 l3 l4 l5 else none)
theorem jd14_147 {d : Nat} {σ0 : ib_H} {Q : ib_O → Prop} {K : jc_K} {l1 : Int} {l2 : Nat} {l3 : Int} {l4 : Int} {l5 : Int} (hl1 : jb_r l1) (hl3 : jb_r l3) (hl4 : jb_r l4) (hl5 : jb_r l5) {r : (jc_K × Int)} (h : fc14_147 K l1 l2 l3 l4 l5 = some r) (k : ∀ σ, jc_S σ0 r.1 σ → jb_r r.2 → Q (.inl (some (jb_v r.2)), σ)) : jc_W σ0 K (d + 1) 14 147 [some (.ref 3), some (jb_v l1), some (.ref l2), some (jb_v l3), some (jb_v l4), some (jb_v l5)] [] Q := by
  intro σ s
  unfold fc14_147 at h
  refine jiL5 (p := 149) rfl jM14 jq14_147 ?_
  refine jw_iconst (p := 150) rfl jM14 jq14_149 ?_
  refine jw_ic (p := 153) rfl jM14 jq14_150 (jc_le hl5 (jb_rn rfl)) (fun c1 => ?_) (fun c1 => ?_)
  · have h1 := jo_p c1 h
    exact jd14_173 hl1 hl3 hl4 hl5 h1 k σ s
  · have h1 := jo_n c1 h
    refine jaL0 (p := 154) rfl jM14 jq14_153 ?_
    refine jw_getP (p := 157) (i := 2) (q := 6) rfl jM14 jq14_154 rfl (jo_3 s.1) je_1_2 (jp_3_2 s.1) ?_
    refine jiL1 (p := 158) rfl jM14 jq14_157 ?_
    refine jaL0 (p := 159) rfl jM14 jq14_158 ?_
    refine jc_getI (p := 162) (i := 7) rfl jM14 jq14_159 rfl (jo_3 s.1) jn_1_7 s (by decide) (by decide) rfl ?_
    obtain ⟨c2, h2⟩ := jo_i h1
    refine jc_iast (p := 163) rfl jM14 jq14_162 (ja_6 s.1) c2.1 c2.2 s (by decide) (s.r _ _) ?_
    intro σ3 s3
    refine jaL0 (p := 164) rfl jM14 jq14_163 ?_
    refine jw_getP (p := 167) (i := 0) (q := 4) rfl jM14 jq14_164 rfl (jo_3 s3.1) je_1_0 (jp_3_0 s3.1) ?_
    refine jiL1 (p := 168) rfl jM14 jq14_167 ?_
    refine jw_aald (p := 169) rfl jM14 jq14_168 (ja_4 s3.1) (Or.inl rfl) c2.1 c2.2 (jb_Fqd s3.1 c2.1 c2.2) ?_
    refine jaL2 (p := 170) rfl jM14 jq14_169 ?_
    refine jw_callV [(.ref l2)] jM14 jq14_170 rfl rfl (jb_Fpgd s3.1 c2.1 c2.2).ob rfl jM35 rfl rfl ?_
    obtain ⟨x4, b5, h5⟩ := jo_b h2
    refine jd35  b5 (fun σ4 s4 => ?_) σ3 s3
    show jb_w (d + 1) 14 173 [some (.ref 3), some (jb_v l1), some (.ref l2), some (jb_v l3), some (jb_v l4), some (jb_v l5)] [] σ4 Q
    exact jd14_173 hl1 hl3 hl4 hl5 h5 k σ4 s4
def fc14_131 (K : jc_K) (l1 : Int) (l2 : Nat) (l3 : Int) (l4 : Int) (l5 : Int) : Option (jc_K × Int) := if l5 ≤ 2 then (fc14_147 K l1 l2 l3 l4 l5) else (if 0 ≤ l1 ∧ l1 < 24 then fc14_147 (jc_ui K 5 l1 (jc_i K 3 7)) l1 l2 l3 l4 l5 else none)
theorem jd14_131 {d : Nat} {σ0 : ib_H} {Q : ib_O → Prop} {K : jc_K} {l1 : Int} {l2 : Nat} {l3 : Int} {l4 : Int} {l5 : Int} (hl1 : jb_r l1) (hl3 : jb_r l3) (hl4 : jb_r l4) (hl5 : jb_r l5) {r : (jc_K × Int)} (h : fc14_131 K l1 l2 l3 l4 l5 = some r) (k : ∀ σ, jc_S σ0 r.1 σ → jb_r r.2 → Q (.inl (some (jb_v r.2)), σ)) : jc_W σ0 K (d + 1) 14 131 [some (.ref 3), some (jb_v l1), some (.ref l2), some (jb_v l3), some (jb_v l4), some (jb_v l5)] [] Q := by
  intro σ s
  unfold fc14_131 at h
  refine jiL5 (p := 133) rfl jM14 jq14_131 ?_
  refine jw_iconst (p := 134) rfl jM14 jq14_133 ?_
  refine jw_ic (p := 137) rfl jM14 jq14_134 (jc_le hl5 (jb_rn rfl)) (fun c1 => ?_) (fun c1 => ?_)
  · have h1 := jo_p c1 h
    exact jd14_147 hl1 hl3 hl4 hl5 h1 k σ s
  · have h1 := jo_n c1 h
    refine jaL0 (p := 138) rfl jM14 jq14_137 ?_
    refine jw_getP (p := 141) (i := 1) (q := 5) rfl jM14 jq14_138 rfl (jo_3 s.1) je_1_1 (jp_3_1 s.1) ?_
    refine jiL1 (p := 142) rfl jM14 jq14_141 ?_
    refine jaL0 (p := 143) rfl jM14 jq14_142 ?_
    refine jc_getI (p := 146) (i := 7) rfl jM14 jq14_143 rfl (jo_3 s.1) jn_1_7 s (by decide) (by decide) rfl ?_
    obtain ⟨c2, h2⟩ := jo_i h1
    refine jc_iast (p := 147) rfl jM14 jq14_146 (ja_5 s.1) c2.1 c2.2 s (by decide) (s.r _ _) ?_
    intro σ3 s3
    exact jd14_147 hl1 hl3 hl4 hl5 h2 k σ3 s3
def fc14_109 (K : jc_K) (l1 : Int) (l2 : Nat) (l3 : Int) (l4 : Int) (l5 : Int) : Option (jc_K × Int) := if l5 ≤ 1 then (fc14_131 K l1 l2 l3 l4 l5) else ((fc35 (jc_ui K 3 6 (jc_i K 3 7)) 7 l2).bind fun x3 => fc14_131 (x3.1) l1 l2 l3 l4 l5)
theorem jd14_109 {d : Nat} {σ0 : ib_H} {Q : ib_O → Prop} {K : jc_K} {l1 : Int} {l2 : Nat} {l3 : Int} {l4 : Int} {l5 : Int} (hl1 : jb_r l1) (hl3 : jb_r l3) (hl4 : jb_r l4) (hl5 : jb_r l5) {r : (jc_K × Int)} (h : fc14_109 K l1 l2 l3 l4 l5 = some r) (k : ∀ σ, jc_S σ0 r.1 σ → jb_r r.2 → Q (.inl (some (jb_v r.2)), σ)) : jc_W σ0 K (d + 1) 14 109 [some (.ref 3), some (jb_v l1), some (.ref l2), some (jb_v l3), some (jb_v l4), some (jb_v l5)] [] Q := by
  intro σ s
  unfold fc14_109 at h
  refine jiL5 (p := 111) rfl jM14 jq14_109 ?_
  refine jw_iconst (p := 112) rfl jM14 jq14_111 ?_
  refine jw_ic (p := 115) rfl jM14 jq14_112 (jc_le hl5 (jb_rn rfl)) (fun c1 => ?_) (fun c1 => ?_)
  · have h1 := jo_p c1 h
    exact jd14_131 hl1 hl3 hl4 hl5 h1 k σ s
  · have h1 := jo_n c1 h
    refine jaL0 (p := 116) rfl jM14 jq14_115 ?_
    refine jaL0 (p := 117) rfl jM14 jq14_116 ?_
    refine jc_getI (p := 120) (i := 7) rfl jM14 jq14_117 rfl (jo_3 s.1) jn_1_7 s (by decide) (by decide) rfl ?_
    refine jc_putI (p := 123) (i := 6) rfl jM14 jq14_120 rfl (jo_3 s.1) (Or.inl jz_1_6) s (by decide) (by decide) (s.r _ _) ?_
    intro σ2 s2
    refine jaL0 (p := 124) rfl jM14 jq14_123 ?_
    refine jw_getP (p := 127) (i := 3) (q := 7) rfl jM14 jq14_124 rfl (jo_3 s2.1) je_1_3 (jp_3_3 s2.1) ?_
    refine jaL2 (p := 128) rfl jM14 jq14_127 ?_
    refine jw_callV [(.ref l2)] jM14 jq14_128 rfl rfl (jo_7 s2.1) rfl jM35 rfl rfl ?_
    obtain ⟨x3, b4, h4⟩ := jo_b h1
    refine jd35  b4 (fun σ3 s3 => ?_) σ2 s2
    show jb_w (d + 1) 14 131 [some (.ref 3), some (jb_v l1), some (.ref l2), some (jb_v l3), some (jb_v l4), some (jb_v l5)] [] σ3 Q
    exact jd14_131 hl1 hl3 hl4 hl5 h4 k σ3 s3
def fc14_37 (K : jc_K) (l1 : Int) (l2 : Nat) (l3 : Int) : Option (jc_K × Int) := if -2147483648 ≤ (l3 + 4) ∧ (l3 + 4) < 2147483648 then (fc12 K (l3 + 4)).bind fun x2 => if l3 ≤ x2.2 then (if -2147483648 ≤ ((jc_i (x2.1) 3 8) + l3) ∧ ((jc_i (x2.1) 3 8) + l3) < 2147483648 then if -2147483648 ≤ ((x2.2) - l3) ∧ ((x2.2) - l3) < 2147483648 then if (x2.2) - l3 ≤ 0 then (fc14_109 (jc_ui (jc_ui (x2.1) 3 8 ((jc_i (x2.1) 3 8) + l3)) 3 7 (jb_m ((jc_i (x2.1) 3 7) + 1))) l1 l2 l3 (x2.2) ((x2.2) - l3)) else (fc14_109 (jc_ui (jc_ui (jc_ui (jc_ui (x2.1) 3 8 ((jc_i (x2.1) 3 8) + l3)) 3 7 (jb_m ((jc_i (x2.1) 3 7) + 1))) 3 4 l1) 3 5 (jb_m ((jc_i (x2.1) 3 7) + 1))) l1 l2 l3 (x2.2) ((x2.2) - l3)) else none else none) else (if -2147483648 ≤ ((jc_i (x2.1) 3 8) + (x2.2)) ∧ ((jc_i (x2.1) 3 8) + (x2.2)) < 2147483648 then some (jc_ui (x2.1) 3 8 ((jc_i (x2.1) 3 8) + (x2.2)), 0) else none) else none
theorem jd14_37 {d : Nat} {σ0 : ib_H} {Q : ib_O → Prop} {K : jc_K} {l1 : Int} {l2 : Nat} {l3 : Int} (hl1 : jb_r l1) (hl3 : jb_r l3) {r : (jc_K × Int)} (h : fc14_37 K l1 l2 l3 = some r) (k : ∀ σ, jc_S σ0 r.1 σ → jb_r r.2 → Q (.inl (some (jb_v r.2)), σ)) : jc_W σ0 K (d + 1) 14 37 [some (.ref 3), some (jb_v l1), some (.ref l2), some (jb_v l3), none, none] [] Q := by
  intro σ s
  unfold fc14_37 at h
  refine jaL0 (p := 38) rfl jM14 jq14_37 ?_
  refine jiL3 (p := 39) rfl jM14 jq14_38 ?_
  refine jw_iconst (p := 40) rfl jM14 jq14_39 ?_
  refine jw_iadd (p := 41) rfl jM14 jq14_40 ?_
  obtain ⟨c1, h1⟩ := jo_i h
  refine jw_callV [(jb_v (l3 + 4))] jM14 jq14_41 rfl rfl (jo_3 s.1) rfl jM12 rfl rfl ?_
  obtain ⟨x2, b3, h3⟩ := jo_b h1
  refine jd12 c1 b3 (fun σ2 s2 r2 => ?_) σ s
  show jb_w (d + 1) 14 44 [some (.ref 3), some (jb_v l1), some (.ref l2), some (jb_v l3), none, none] [(jb_v (x2.2))] σ2 Q
  refine jiS4 (p := 46) rfl jM14 jq14_44 ?_
  refine jiL4 (p := 48) rfl jM14 jq14_46 ?_
  refine jiL3 (p := 49) rfl jM14 jq14_48 ?_
  refine jw_ic (p := 52) rfl jM14 jq14_49 (jc_ge r2 hl3) (fun c4 => ?_) (fun c4 => ?_)
  · have h4 := jo_p c4 h3
    refine jaL0 (p := 66) rfl jM14 jq14_65 ?_
    refine jw_dupA (p := 67) rfl jM14 jq14_66 ?_
    refine jc_getI (p := 70) (i := 8) rfl jM14 jq14_67 rfl (jo_3 s2.1) jn_1_8 s2 (by decide) (by decide) rfl ?_
    refine jiL3 (p := 71) rfl jM14 jq14_70 ?_
    refine jw_iadd (p := 72) rfl jM14 jq14_71 ?_
    obtain ⟨c5, h5⟩ := jo_i h4
    refine jc_putI (p := 75) (i := 8) rfl jM14 jq14_72 rfl (jo_3 s2.1) (Or.inl jz_1_8) s2 (by decide) (by decide) c5 ?_
    intro σ6 s6
    refine jiL4 (p := 77) rfl jM14 jq14_75 ?_
    refine jiL3 (p := 78) rfl jM14 jq14_77 ?_
    refine jw_isub (p := 79) rfl jM14 jq14_78 ?_
    refine jiS5 (p := 81) rfl jM14 jq14_79 ?_
    refine jaL0 (p := 82) rfl jM14 jq14_81 ?_
    refine jw_dupA (p := 83) rfl jM14 jq14_82 ?_
    refine jc_getI (p := 86) (i := 7) rfl jM14 jq14_83 rfl (jo_3 s6.1) jn_1_7 s6 (by decide) (by decide) (jc_uI (by decide)) ?_
    refine jw_iconst (p := 87) rfl jM14 jq14_86 ?_
    refine jw_iadd (p := 88) rfl jM14 jq14_87 ?_
    refine jc_putM (p := 91) (i := 7) rfl jM14 jq14_88 rfl (jo_3 s6.1) (Or.inl jz_1_7) s6 (by decide) (by decide) ?_
    intro σ7 s7
    refine jiL5 (p := 93) rfl jM14 jq14_91 ?_
    obtain ⟨c8, h8⟩ := jo_i h5
    refine jw_if (p := 96) rfl jM14 jq14_93 (jc_le c8 jb_r0) (fun c9 => ?_) (fun c9 => ?_)
    · have h9 := jo_p c9 h8
      exact jd14_109 hl1 hl3 r2 c8 h9 k σ7 s7
    · have h9 := jo_n c9 h8
      refine jaL0 (p := 97) rfl jM14 jq14_96 ?_
      refine jiL1 (p := 98) rfl jM14 jq14_97 ?_
      refine jc_putI (p := 101) (i := 4) rfl jM14 jq14_98 rfl (jo_3 s7.1) (Or.inl jz_1_4) s7 (by decide) (by decide) hl1 ?_
      intro σ10 s10
      refine jaL0 (p := 102) rfl jM14 jq14_101 ?_
      refine jaL0 (p := 103) rfl jM14 jq14_102 ?_
      refine jc_getI (p := 106) (i := 7) rfl jM14 jq14_103 rfl (jo_3 s10.1) jn_1_7 s10 (by decide) (by decide) ((jc_uI (by decide)).trans jc_uH) ?_
      refine jc_putI (p := 109) (i := 5) rfl jM14 jq14_106 rfl (jo_3 s10.1) (Or.inl jz_1_5) s10 (by decide) (by decide) (jb_m_r _) ?_
      intro σ11 s11
      exact jd14_109 hl1 hl3 r2 c8 h9 k σ11 s11
  · have h4 := jo_n c4 h3
    refine jaL0 (p := 53) rfl jM14 jq14_52 ?_
    refine jw_dupA (p := 54) rfl jM14 jq14_53 ?_
    refine jc_getI (p := 57) (i := 8) rfl jM14 jq14_54 rfl (jo_3 s2.1) jn_1_8 s2 (by decide) (by decide) rfl ?_
    refine jiL4 (p := 59) rfl jM14 jq14_57 ?_
    refine jw_iadd (p := 60) rfl jM14 jq14_59 ?_
    obtain ⟨c12, h12⟩ := jo_i h4
    refine jc_putI (p := 63) (i := 8) rfl jM14 jq14_60 rfl (jo_3 s2.1) (Or.inl jz_1_8) s2 (by decide) (by decide) c12 ?_
    intro σ13 s13
    refine jw_iconst (p := 64) rfl jM14 jq14_63 ?_
    cases h12
    exact jw_iret jM14 jq14_64 (fun _ => Or.inl rfl) (k σ13 s13 (jb_rn rfl))
def fc14 (K : jc_K) (l1 : Int) (l2 : Nat) : Option (jc_K × Int) := if l1 < 0 then (some (K, 1)) else (if l1 < 24 then (if jc_pg K l2 then if jc_i K l2 1 ≤ jc_i K 3 8 then (fc14_37 K l1 l2 0) else (if -2147483648 ≤ ((jc_i K l2 1) - (jc_i K 3 8)) ∧ ((jc_i K l2 1) - (jc_i K 3 8)) < 2147483648 then fc14_37 K l1 l2 ((jc_i K l2 1) - (jc_i K 3 8)) else none) else none) else (some (K, 1)))
theorem jd14 {d : Nat} {σ0 : ib_H} {Q : ib_O → Prop} {K : jc_K} {l1 : Int} {l2 : Nat} (hl1 : jb_r l1) {r : (jc_K × Int)} (h : fc14 K l1 l2 = some r) (k : ∀ σ, jc_S σ0 r.1 σ → jb_r r.2 → Q (.inl (some (jb_v r.2)), σ)) : jc_W σ0 K (d + 1) 14 0 [some (.ref 3), some (jb_v l1), some (.ref l2), none, none, none] [] Q := by
  intro σ s
  unfold fc14 at h
  refine jiL1 (p := 1) rfl jM14 jq14_0 ?_
  refine jw_if (p := 4) rfl jM14 jq14_1 (jc_lt hl1 jb_r0) (fun c1 => ?_) (fun c1 => ?_)
  · have h1 := jo_p c1 h
    refine jw_iconst (p := 11) rfl jM14 jq14_10 ?_
    cases h1
    exact jw_iret jM14 jq14_11 (fun _ => Or.inr rfl) (k σ s (jb_rn rfl))
  · have h1 := jo_n c1 h
    refine jiL1 (p := 5) rfl jM14 jq14_4 ?_
    refine jw_bipush (p := 7) rfl jM14 jq14_5 (by decide) ?_
    refine jw_ic (p := 10) rfl jM14 jq14_7 (jc_lt hl1 (jb_rn rfl)) (fun c2 => ?_) (fun c2 => ?_)
    · have h2 := jo_p c2 h1
      refine jaL2 (p := 13) rfl jM14 jq14_12 ?_
      obtain ⟨c3, h3⟩ := jo_i h2
      refine jc_getI (p := 16) (i := 1) rfl jM14 jq14_13 rfl (s.pg c3).ob jn_4_1 s (jc_pgd c3) (by decide) rfl ?_
      refine jaL0 (p := 17) rfl jM14 jq14_16 ?_
      refine jc_getI (p := 20) (i := 8) rfl jM14 jq14_17 rfl (jo_3 s.1) jn_1_8 s (by decide) (by decide) rfl ?_
      refine jw_ic (p := 23) rfl jM14 jq14_20 (jc_le (s.r _ _) (s.r _ _)) (fun c4 => ?_) (fun c4 => ?_)
      · have h4 := jo_p c4 h3
        refine jw_iconst (p := 36) rfl jM14 jq14_35 ?_
        refine jiS3 (p := 37) rfl jM14 jq14_36 ?_
        exact jd14_37 hl1 (jb_rn rfl) h4 k σ s
      · have h4 := jo_n c4 h3
        refine jaL2 (p := 24) rfl jM14 jq14_23 ?_
        refine jc_getI (p := 27) (i := 1) rfl jM14 jq14_24 rfl (s.pg c3).ob jn_4_1 s (jc_pgd c3) (by decide) rfl ?_
        refine jaL0 (p := 28) rfl jM14 jq14_27 ?_
        refine jc_getI (p := 31) (i := 8) rfl jM14 jq14_28 rfl (jo_3 s.1) jn_1_8 s (by decide) (by decide) rfl ?_
        refine jw_isub (p := 32) rfl jM14 jq14_31 ?_
        refine jw_goto jM14 jq14_32 ?_
        refine jiS3 (p := 37) rfl jM14 jq14_36 ?_
        obtain ⟨c5, h5⟩ := jo_i h4
        exact jd14_37 hl1 c5 h5 k σ s
    · have h2 := jo_n c2 h1
      refine jw_iconst (p := 11) rfl jM14 jq14_10 ?_
      cases h2
      exact jw_iret jM14 jq14_11 (fun _ => Or.inr rfl) (k σ s (jb_rn rfl))
-- 5 PageLoom$Cache.use need 2
def fc5_97 (K : jc_K) (l1 : Int) (l2 : Int) : Option (jc_K × Int) := if 0 ≤ l2 ∧ l2 < 4 then some (jc_ui K 69 l2 1, 1) else none
theorem jd5_97 {d : Nat} {σ0 : ib_H} {Q : ib_O → Prop} {K : jc_K} {l1 : Int} {l2 : Int} (hl1 : jb_r l1) (hl2 : jb_r l2) {r : (jc_K × Int)} (h : fc5_97 K l1 l2 = some r) (k : ∀ σ, jc_S σ0 r.1 σ → jb_r r.2 → Q (.inl (some (jb_v r.2)), σ)) : jc_W σ0 K (d + 2) 5 97 [some (.ref 66), some (jb_v l1), some (jb_v l2)] [] Q := by
  intro σ s
  unfold fc5_97 at h
  refine jaL0 (p := 98) rfl jM5 jq5_97 ?_
  refine jw_getP (p := 101) (i := 3) (q := 69) rfl jM5 jq5_98 rfl (jo_66 s.1) je_0_3 (jp_66_3 s.1) ?_
  refine jiL2 (p := 102) rfl jM5 jq5_101 ?_
  refine jw_iconst (p := 103) rfl jM5 jq5_102 ?_
  obtain ⟨c1, h1⟩ := jo_i h
  refine jc_bast (p := 104) rfl jM5 jq5_103 (ja_69 s.1) c1.1 c1.2 (Or.inr rfl) s (by decide) ?_
  intro σ2 s2
  refine jw_iconst (p := 105) rfl jM5 jq5_104 ?_
  cases h1
  exact jw_iret jM5 jq5_105 (fun _ => Or.inr rfl) (k σ2 s2 (jb_rn rfl))
def fc5_65 (K : jc_K) (l1 : Int) (l2 : Int) : Option (jc_K × Int) := if 0 ≤ l2 ∧ l2 < 4 then if 0 ≤ l1 ∧ l1 < 24 then (fc35 K (71 + 2 * Int.toNat l2) (9 + 2 * Int.toNat l1)).bind fun x3 => fc5_97 (jc_ui (jc_ui (x3.1) 68 l2 l1) 70 l2 0) l1 l2 else none else none
theorem jd5_65 {d : Nat} {σ0 : ib_H} {Q : ib_O → Prop} {K : jc_K} {l1 : Int} {l2 : Int} (hl1 : jb_r l1) (hl2 : jb_r l2) {r : (jc_K × Int)} (h : fc5_65 K l1 l2 = some r) (k : ∀ σ, jc_S σ0 r.1 σ → jb_r r.2 → Q (.inl (some (jb_v r.2)), σ)) : jc_W σ0 K (d + 2) 5 65 [some (.ref 66), some (jb_v l1), some (jb_v l2)] [] Q := by
  intro σ s
  unfold fc5_65 at h
  refine jaL0 (p := 66) rfl jM5 jq5_65 ?_
  refine jw_getP (p := 69) (i := 1) (q := 67) rfl jM5 jq5_66 rfl (jo_66 s.1) je_0_1 (jp_66_1 s.1) ?_
  refine jiL2 (p := 70) rfl jM5 jq5_69 ?_
  obtain ⟨c1, h1⟩ := jo_i h
  refine jw_aald (p := 71) rfl jM5 jq5_70 (ja_67 s.1) (Or.inl rfl) c1.1 c1.2 (jb_Fqf s.1 c1.1 c1.2) ?_
  refine jaL0 (p := 72) rfl jM5 jq5_71 ?_
  refine jw_getP (p := 75) (i := 0) (q := 3) rfl jM5 jq5_72 rfl (jo_66 s.1) je_0_0 (jp_66_0 s.1) ?_
  refine jw_getP (p := 78) (i := 0) (q := 4) rfl jM5 jq5_75 rfl (jo_3 s.1) je_1_0 (jp_3_0 s.1) ?_
  refine jiL1 (p := 79) rfl jM5 jq5_78 ?_
  obtain ⟨c2, h2⟩ := jo_i h1
  refine jw_aald (p := 80) rfl jM5 jq5_79 (ja_4 s.1) (Or.inl rfl) c2.1 c2.2 (jb_Fqd s.1 c2.1 c2.2) ?_
  refine jw_callV [(.ref (9 + 2 * Int.toNat l1))] jM5 jq5_80 rfl rfl (jb_Fpgf s.1 c1.1 c1.2).ob rfl jM35 rfl rfl ?_
  obtain ⟨x3, b4, h4⟩ := jo_b h2
  refine jd35  b4 (fun σ3 s3 => ?_) σ s
  show jb_w (d + 2) 5 83 [some (.ref 66), some (jb_v l1), some (jb_v l2)] [] σ3 Q
  refine jaL0 (p := 84) rfl jM5 jq5_83 ?_
  refine jw_getP (p := 87) (i := 2) (q := 68) rfl jM5 jq5_84 rfl (jo_66 s3.1) je_0_2 (jp_66_2 s3.1) ?_
  refine jiL2 (p := 88) rfl jM5 jq5_87 ?_
  refine jiL1 (p := 89) rfl jM5 jq5_88 ?_
  refine jc_iast (p := 90) rfl jM5 jq5_89 (ja_68 s3.1) c1.1 c1.2 s3 (by decide) hl1 ?_
  intro σ5 s5
  refine jaL0 (p := 91) rfl jM5 jq5_90 ?_
  refine jw_getP (p := 94) (i := 4) (q := 70) rfl jM5 jq5_91 rfl (jo_66 s5.1) je_0_4 (jp_66_4 s5.1) ?_
  refine jiL2 (p := 95) rfl jM5 jq5_94 ?_
  refine jw_iconst (p := 96) rfl jM5 jq5_95 ?_
  refine jc_iast (p := 97) rfl jM5 jq5_96 (ja_70 s5.1) c1.1 c1.2 s5 (by decide) (jb_rn rfl) ?_
  intro σ6 s6
  exact jd5_97 hl1 hl2 h4 k σ6 s6
def fc5 (K : jc_K) (l1 : Int) : Option (jc_K × Int) := if l1 < 0 then (some (K, 0)) else (if l1 < 24 then ((fc2 K l1).bind fun x3 => if x3.2 < 0 then ((fc6 (x3.1) ).bind fun x6 => if 0 ≤ (x6.2) ∧ (x6.2) < 4 then if jc_i (x6.1) 70 (x6.2) ≤ 0 then (fc5_65 (x6.1) l1 (x6.2)) else ((fc14 (x6.1) (jc_i (x6.1) 68 (x6.2)) (71 + 2 * Int.toNat (x6.2))).bind fun x10 => if x10.2 = 0 then (some (x10.1, 0)) else (fc5_65 (x10.1) l1 (x6.2))) else none) else (if x3.2 < 4 then (fc5_97 (x3.1) l1 (x3.2)) else ((fc6 (x3.1) ).bind fun x14 => if 0 ≤ (x14.2) ∧ (x14.2) < 4 then if jc_i (x14.1) 70 (x14.2) ≤ 0 then (fc5_65 (x14.1) l1 (x14.2)) else ((fc14 (x14.1) (jc_i (x14.1) 68 (x14.2)) (71 + 2 * Int.toNat (x14.2))).bind fun x18 => if x18.2 = 0 then (some (x18.1, 0)) else (fc5_65 (x18.1) l1 (x14.2))) else none))) else (some (K, 0)))
theorem jd5 {d : Nat} {σ0 : ib_H} {Q : ib_O → Prop} {K : jc_K} {l1 : Int} (hl1 : jb_r l1) {r : (jc_K × Int)} (h : fc5 K l1 = some r) (k : ∀ σ, jc_S σ0 r.1 σ → jb_r r.2 → Q (.inl (some (jb_v r.2)), σ)) : jc_W σ0 K (d + 2) 5 0 [some (.ref 66), some (jb_v l1), none] [] Q := by
  intro σ s
  unfold fc5 at h
  refine jiL1 (p := 1) rfl jM5 jq5_0 ?_
  refine jw_if (p := 4) rfl jM5 jq5_1 (jc_lt hl1 jb_r0) (fun c1 => ?_) (fun c1 => ?_)
  · have h1 := jo_p c1 h
    refine jw_iconst (p := 11) rfl jM5 jq5_10 ?_
    cases h1
    exact jw_iret jM5 jq5_11 (fun _ => Or.inl rfl) (k σ s (jb_rn rfl))
  · have h1 := jo_n c1 h
    refine jiL1 (p := 5) rfl jM5 jq5_4 ?_
    refine jw_bipush (p := 7) rfl jM5 jq5_5 (by decide) ?_
    refine jw_ic (p := 10) rfl jM5 jq5_7 (jc_lt hl1 (jb_rn rfl)) (fun c2 => ?_) (fun c2 => ?_)
    · have h2 := jo_p c2 h1
      refine jaL0 (p := 13) rfl jM5 jq5_12 ?_
      refine jiL1 (p := 14) rfl jM5 jq5_13 ?_
      refine jw_callV [(jb_v l1)] jM5 jq5_14 rfl rfl (jo_66 s.1) rfl jM2 rfl rfl ?_
      obtain ⟨x3, b4, h4⟩ := jo_b h2
      refine jd2 hl1 b4 (fun σ3 s3 r3 => ?_) σ s
      show jb_w (d + 2) 5 17 [some (.ref 66), some (jb_v l1), none] [(jb_v (x3.2))] σ3 Q
      refine jiS2 (p := 18) rfl jM5 jq5_17 ?_
      refine jiL2 (p := 19) rfl jM5 jq5_18 ?_
      refine jw_if (p := 22) rfl jM5 jq5_19 (jc_lt r3 jb_r0) (fun c5 => ?_) (fun c5 => ?_)
      · have h5 := jo_p c5 h4
        refine jaL0 (p := 28) rfl jM5 jq5_27 ?_
        refine jw_callV [] jM5 jq5_28 rfl rfl (jo_66 s3.1) rfl jM6 rfl rfl ?_
        obtain ⟨x6, b7, h7⟩ := jo_b h5
        refine jd6  b7 (fun σ6 s6 r6 => ?_) σ3 s3
        show jb_w (d + 2) 5 31 [some (.ref 66), some (jb_v l1), some (jb_v (x3.2))] [(jb_v (x6.2))] σ6 Q
        refine jiS2 (p := 32) rfl jM5 jq5_31 ?_
        refine jaL0 (p := 33) rfl jM5 jq5_32 ?_
        refine jw_getP (p := 36) (i := 4) (q := 70) rfl jM5 jq5_33 rfl (jo_66 s6.1) je_0_4 (jp_66_4 s6.1) ?_
        refine jiL2 (p := 37) rfl jM5 jq5_36 ?_
        obtain ⟨c8, h8⟩ := jo_i h7
        refine jc_iald (p := 38) rfl jM5 jq5_37 (ja_70 s6.1) c8.1 c8.2 s6 (by decide) rfl ?_
        refine jw_if (p := 41) rfl jM5 jq5_38 (jc_le (s6.r _ _) jb_r0) (fun c9 => ?_) (fun c9 => ?_)
        · have h9 := jo_p c9 h8
          exact jd5_65 hl1 r6 h9 k σ6 s6
        · have h9 := jo_n c9 h8
          refine jaL0 (p := 42) rfl jM5 jq5_41 ?_
          refine jw_getP (p := 45) (i := 0) (q := 3) rfl jM5 jq5_42 rfl (jo_66 s6.1) je_0_0 (jp_66_0 s6.1) ?_
          refine jaL0 (p := 46) rfl jM5 jq5_45 ?_
          refine jw_getP (p := 49) (i := 2) (q := 68) rfl jM5 jq5_46 rfl (jo_66 s6.1) je_0_2 (jp_66_2 s6.1) ?_
          refine jiL2 (p := 50) rfl jM5 jq5_49 ?_
          refine jc_iald (p := 51) rfl jM5 jq5_50 (ja_68 s6.1) c8.1 c8.2 s6 (by decide) rfl ?_
          refine jaL0 (p := 52) rfl jM5 jq5_51 ?_
          refine jw_getP (p := 55) (i := 1) (q := 67) rfl jM5 jq5_52 rfl (jo_66 s6.1) je_0_1 (jp_66_1 s6.1) ?_
          refine jiL2 (p := 56) rfl jM5 jq5_55 ?_
          refine jw_aald (p := 57) rfl jM5 jq5_56 (ja_67 s6.1) (Or.inl rfl) c8.1 c8.2 (jb_Fqf s6.1 c8.1 c8.2) ?_
          refine jw_callV [(jb_v (jc_i (x6.1) 68 (x6.2))), (.ref (71 + 2 * Int.toNat (x6.2)))] jM5 jq5_57 rfl rfl (jo_3 s6.1) rfl jM14 rfl rfl ?_
          obtain ⟨x10, b11, h11⟩ := jo_b h9
          refine jd14 (s6.r _ _) b11 (fun σ10 s10 r10 => ?_) σ6 s6
          show jb_w (d + 2) 5 60 [some (.ref 66), some (jb_v l1), some (jb_v (x6.2))] [(jb_v (x10.2))] σ10 Q
          refine jw_if (p := 63) rfl jM5 jq5_60 (jc_ne r10 jb_r0) (fun c12 => ?_) (fun c12 => ?_)
          · have h12 := jo_n c12 h11
            exact jd5_65 hl1 r6 h12 k σ10 s10
          · have h12 := jo_p (Decidable.byContradiction c12) h11
            refine jw_iconst (p := 64) rfl jM5 jq5_63 ?_
            cases h12
            exact jw_iret jM5 jq5_64 (fun _ => Or.inl rfl) (k σ10 s10 (jb_rn rfl))
      · have h5 := jo_n c5 h4
        refine jiL2 (p := 23) rfl jM5 jq5_22 ?_
        refine jw_iconst (p := 24) rfl jM5 jq5_23 ?_
        refine jw_ic (p := 27) rfl jM5 jq5_24 (jc_lt r3 (jb_rn rfl)) (fun c13 => ?_) (fun c13 => ?_)
        · have h13 := jo_p c13 h5
          exact jd5_97 hl1 r3 h13 k σ3 s3
        · have h13 := jo_n c13 h5
          refine jaL0 (p := 28) rfl jM5 jq5_27 ?_
          refine jw_callV [] jM5 jq5_28 rfl rfl (jo_66 s3.1) rfl jM6 rfl rfl ?_
          obtain ⟨x14, b15, h15⟩ := jo_b h13
          refine jd6  b15 (fun σ14 s14 r14 => ?_) σ3 s3
          show jb_w (d + 2) 5 31 [some (.ref 66), some (jb_v l1), some (jb_v (x3.2))] [(jb_v (x14.2))] σ14 Q
          refine jiS2 (p := 32) rfl jM5 jq5_31 ?_
          refine jaL0 (p := 33) rfl jM5 jq5_32 ?_
          refine jw_getP (p := 36) (i := 4) (q := 70) rfl jM5 jq5_33 rfl (jo_66 s14.1) je_0_4 (jp_66_4 s14.1) ?_
          refine jiL2 (p := 37) rfl jM5 jq5_36 ?_
          obtain ⟨c16, h16⟩ := jo_i h15
          refine jc_iald (p := 38) rfl jM5 jq5_37 (ja_70 s14.1) c16.1 c16.2 s14 (by decide) rfl ?_
          refine jw_if (p := 41) rfl jM5 jq5_38 (jc_le (s14.r _ _) jb_r0) (fun c17 => ?_) (fun c17 => ?_)
          · have h17 := jo_p c17 h16
            exact jd5_65 hl1 r14 h17 k σ14 s14
          · have h17 := jo_n c17 h16
            refine jaL0 (p := 42) rfl jM5 jq5_41 ?_
            refine jw_getP (p := 45) (i := 0) (q := 3) rfl jM5 jq5_42 rfl (jo_66 s14.1) je_0_0 (jp_66_0 s14.1) ?_
            refine jaL0 (p := 46) rfl jM5 jq5_45 ?_
            refine jw_getP (p := 49) (i := 2) (q := 68) rfl jM5 jq5_46 rfl (jo_66 s14.1) je_0_2 (jp_66_2 s14.1) ?_
            refine jiL2 (p := 50) rfl jM5 jq5_49 ?_
            refine jc_iald (p := 51) rfl jM5 jq5_50 (ja_68 s14.1) c16.1 c16.2 s14 (by decide) rfl ?_
            refine jaL0 (p := 52) rfl jM5 jq5_51 ?_
            refine jw_getP (p := 55) (i := 1) (q := 67) rfl jM5 jq5_52 rfl (jo_66 s14.1) je_0_1 (jp_66_1 s14.1) ?_
            refine jiL2 (p := 56) rfl jM5 jq5_55 ?_
            refine jw_aald (p := 57) rfl jM5 jq5_56 (ja_67 s14.1) (Or.inl rfl) c16.1 c16.2 (jb_Fqf s14.1 c16.1 c16.2) ?_
            refine jw_callV [(jb_v (jc_i (x14.1) 68 (x14.2))), (.ref (71 + 2 * Int.toNat (x14.2)))] jM5 jq5_57 rfl rfl (jo_3 s14.1) rfl jM14 rfl rfl ?_
            obtain ⟨x18, b19, h19⟩ := jo_b h17
            refine jd14 (s14.r _ _) b19 (fun σ18 s18 r18 => ?_) σ14 s14
            show jb_w (d + 2) 5 60 [some (.ref 66), some (jb_v l1), some (jb_v (x14.2))] [(jb_v (x18.2))] σ18 Q
            refine jw_if (p := 63) rfl jM5 jq5_60 (jc_ne r18 jb_r0) (fun c20 => ?_) (fun c20 => ?_)
            · have h20 := jo_n c20 h19
              exact jd5_65 hl1 r14 h20 k σ18 s18
            · have h20 := jo_p (Decidable.byContradiction c20) h19
              refine jw_iconst (p := 64) rfl jM5 jq5_63 ?_
              cases h20
              exact jw_iret jM5 jq5_64 (fun _ => Or.inl rfl) (k σ18 s18 (jb_rn rfl))
    · have h2 := jo_n c2 h1
      refine jw_iconst (p := 11) rfl jM5 jq5_10 ?_
      cases h2
      exact jw_iret jM5 jq5_11 (fun _ => Or.inl rfl) (k σ s (jb_rn rfl))
-- 7 PageLoom$Cache.toChange need 1
def fc7 (K : jc_K) (l1 : Int) (l2 : Int) : Option (jc_K × Nat) := (fc2 K l1).bind fun x1 => if x1.2 < 0 then (some (x1.1, 0)) else (if x1.2 < 4 then (if 0 ≤ (x1.2) ∧ (x1.2) < 4 then if jc_i (x1.1) 70 (x1.2) = 0 then (some (jc_ui (x1.1) 70 (x1.2) l2, 71 + 2 * Int.toNat (x1.2))) else (some (x1.1, 71 + 2 * Int.toNat (x1.2))) else none) else (some (x1.1, 0)))
theorem jd7 {d : Nat} {σ0 : ib_H} {Q : ib_O → Prop} {K : jc_K} {l1 : Int} {l2 : Int} (hl1 : jb_r l1) (hl2 : jb_r l2) {r : (jc_K × Nat)} (h : fc7 K l1 l2 = some r) (k : ∀ σ, jc_S σ0 r.1 σ → Q (.inl (some (.ref r.2)), σ)) : jc_W σ0 K (d + 1) 7 0 [some (.ref 66), some (jb_v l1), some (jb_v l2), none] [] Q := by
  intro σ s
  unfold fc7 at h
  refine jaL0 (p := 1) rfl jM7 jq7_0 ?_
  refine jiL1 (p := 2) rfl jM7 jq7_1 ?_
  refine jw_callV [(jb_v l1)] jM7 jq7_2 rfl rfl (jo_66 s.1) rfl jM2 rfl rfl ?_
  obtain ⟨x1, b2, h2⟩ := jo_b h
  refine jd2 hl1 b2 (fun σ1 s1 r1 => ?_) σ s
  show jb_w (d + 1) 7 5 [some (.ref 66), some (jb_v l1), some (jb_v l2), none] [(jb_v (x1.2))] σ1 Q
  refine jiS3 (p := 6) rfl jM7 jq7_5 ?_
  refine jiL3 (p := 7) rfl jM7 jq7_6 ?_
  refine jw_if (p := 10) rfl jM7 jq7_7 (jc_lt r1 jb_r0) (fun c3 => ?_) (fun c3 => ?_)
  · have h3 := jo_p c3 h2
    refine jw_null (p := 16) rfl jM7 jq7_15 ?_
    cases h3
    exact jw_aret jM7 jq7_16 (k σ1 s1)
  · have h3 := jo_n c3 h2
    refine jiL3 (p := 11) rfl jM7 jq7_10 ?_
    refine jw_iconst (p := 12) rfl jM7 jq7_11 ?_
    refine jw_ic (p := 15) rfl jM7 jq7_12 (jc_lt r1 (jb_rn rfl)) (fun c4 => ?_) (fun c4 => ?_)
    · have h4 := jo_p c4 h3
      refine jaL0 (p := 18) rfl jM7 jq7_17 ?_
      refine jw_getP (p := 21) (i := 4) (q := 70) rfl jM7 jq7_18 rfl (jo_66 s1.1) je_0_4 (jp_66_4 s1.1) ?_
      refine jiL3 (p := 22) rfl jM7 jq7_21 ?_
      obtain ⟨c5, h5⟩ := jo_i h4
      refine jc_iald (p := 23) rfl jM7 jq7_22 (ja_70 s1.1) c5.1 c5.2 s1 (by decide) rfl ?_
      refine jw_if (p := 26) rfl jM7 jq7_23 (jc_ne (s1.r _ _) jb_r0) (fun c6 => ?_) (fun c6 => ?_)
      · have h6 := jo_n c6 h5
        refine jaL0 (p := 34) rfl jM7 jq7_33 ?_
        refine jw_getP (p := 37) (i := 1) (q := 67) rfl jM7 jq7_34 rfl (jo_66 s1.1) je_0_1 (jp_66_1 s1.1) ?_
        refine jiL3 (p := 38) rfl jM7 jq7_37 ?_
        refine jw_aald (p := 39) rfl jM7 jq7_38 (ja_67 s1.1) (Or.inl rfl) c5.1 c5.2 (jb_Fqf s1.1 c5.1 c5.2) ?_
        cases h6
        exact jw_aret jM7 jq7_39 (k σ1 s1)
      · have h6 := jo_p (Decidable.byContradiction c6) h5
        refine jaL0 (p := 27) rfl jM7 jq7_26 ?_
        refine jw_getP (p := 30) (i := 4) (q := 70) rfl jM7 jq7_27 rfl (jo_66 s1.1) je_0_4 (jp_66_4 s1.1) ?_
        refine jiL3 (p := 31) rfl jM7 jq7_30 ?_
        refine jiL2 (p := 32) rfl jM7 jq7_31 ?_
        refine jc_iast (p := 33) rfl jM7 jq7_32 (ja_70 s1.1) c5.1 c5.2 s1 (by decide) hl2 ?_
        intro σ7 s7
        refine jaL0 (p := 34) rfl jM7 jq7_33 ?_
        refine jw_getP (p := 37) (i := 1) (q := 67) rfl jM7 jq7_34 rfl (jo_66 s7.1) je_0_1 (jp_66_1 s7.1) ?_
        refine jiL3 (p := 38) rfl jM7 jq7_37 ?_
        refine jw_aald (p := 39) rfl jM7 jq7_38 (ja_67 s7.1) (Or.inl rfl) c5.1 c5.2 (jb_Fqf s7.1 c5.1 c5.2) ?_
        cases h6
        exact jw_aret jM7 jq7_39 (k σ7 s7)
    · have h4 := jo_n c4 h3
      refine jw_null (p := 16) rfl jM7 jq7_15 ?_
      cases h4
      exact jw_aret jM7 jq7_16 (k σ1 s1)
-- 8 PageLoom$Cache.differs need 1
def fc8 (K : jc_K) (l1 : Int) : Option (jc_K × Int) := (fc2 K l1).bind fun x1 => if x1.2 < 0 then (some (x1.1, 0)) else (if 4 ≤ x1.2 then (some (x1.1, 0)) else (if 0 ≤ (x1.2) ∧ (x1.2) < 4 then if jc_i (x1.1) 70 (x1.2) ≤ 0 then (some (x1.1, 0)) else (some (x1.1, 1)) else none))
theorem jd8 {d : Nat} {σ0 : ib_H} {Q : ib_O → Prop} {K : jc_K} {l1 : Int} (hl1 : jb_r l1) {r : (jc_K × Int)} (h : fc8 K l1 = some r) (k : ∀ σ, jc_S σ0 r.1 σ → jb_r r.2 → Q (.inl (some (jb_v r.2)), σ)) : jc_W σ0 K (d + 1) 8 0 [some (.ref 66), some (jb_v l1), none] [] Q := by
  intro σ s
  unfold fc8 at h
  refine jaL0 (p := 1) rfl jM8 jq8_0 ?_
  refine jiL1 (p := 2) rfl jM8 jq8_1 ?_
  refine jw_callV [(jb_v l1)] jM8 jq8_2 rfl rfl (jo_66 s.1) rfl jM2 rfl rfl ?_
  obtain ⟨x1, b2, h2⟩ := jo_b h
  refine jd2 hl1 b2 (fun σ1 s1 r1 => ?_) σ s
  show jb_w (d + 1) 8 5 [some (.ref 66), some (jb_v l1), none] [(jb_v (x1.2))] σ1 Q
  refine jiS2 (p := 6) rfl jM8 jq8_5 ?_
  refine jiL2 (p := 7) rfl jM8 jq8_6 ?_
  refine jw_if (p := 10) rfl jM8 jq8_7 (jc_lt r1 jb_r0) (fun c3 => ?_) (fun c3 => ?_)
  · have h3 := jo_p c3 h2
    refine jw_iconst (p := 29) rfl jM8 jq8_28 ?_
    cases h3
    exact jw_iret jM8 jq8_29 (fun _ => Or.inl rfl) (k σ1 s1 (jb_rn rfl))
  · have h3 := jo_n c3 h2
    refine jiL2 (p := 11) rfl jM8 jq8_10 ?_
    refine jw_iconst (p := 12) rfl jM8 jq8_11 ?_
    refine jw_ic (p := 15) rfl jM8 jq8_12 (jc_ge r1 (jb_rn rfl)) (fun c4 => ?_) (fun c4 => ?_)
    · have h4 := jo_p c4 h3
      refine jw_iconst (p := 29) rfl jM8 jq8_28 ?_
      cases h4
      exact jw_iret jM8 jq8_29 (fun _ => Or.inl rfl) (k σ1 s1 (jb_rn rfl))
    · have h4 := jo_n c4 h3
      refine jaL0 (p := 16) rfl jM8 jq8_15 ?_
      refine jw_getP (p := 19) (i := 4) (q := 70) rfl jM8 jq8_16 rfl (jo_66 s1.1) je_0_4 (jp_66_4 s1.1) ?_
      refine jiL2 (p := 20) rfl jM8 jq8_19 ?_
      obtain ⟨c5, h5⟩ := jo_i h4
      refine jc_iald (p := 21) rfl jM8 jq8_20 (ja_70 s1.1) c5.1 c5.2 s1 (by decide) rfl ?_
      refine jw_if (p := 24) rfl jM8 jq8_21 (jc_le (s1.r _ _) jb_r0) (fun c6 => ?_) (fun c6 => ?_)
      · have h6 := jo_p c6 h5
        refine jw_iconst (p := 29) rfl jM8 jq8_28 ?_
        cases h6
        exact jw_iret jM8 jq8_29 (fun _ => Or.inl rfl) (k σ1 s1 (jb_rn rfl))
      · have h6 := jo_n c6 h5
        refine jw_iconst (p := 25) rfl jM8 jq8_24 ?_
        refine jw_goto jM8 jq8_25 ?_
        cases h6
        exact jw_iret jM8 jq8_29 (fun _ => Or.inr rfl) (k σ1 s1 (jb_rn rfl))
-- 9 PageLoom$Cache.clean need 2
def fc9 (K : jc_K) (l1 : Int) : Option (jc_K × Int) := (fc2 K l1).bind fun x1 => if x1.2 < 0 then (some (x1.1, 1)) else (if x1.2 < 4 then (if 0 ≤ (x1.2) ∧ (x1.2) < 4 then (fc14 (x1.1) l1 (71 + 2 * Int.toNat (x1.2))).bind fun x6 => if x6.2 = 0 then (some (x6.1, 0)) else (some (jc_ui (x6.1) 70 (x1.2) 0, 1)) else none) else (some (x1.1, 1)))
theorem jd9 {d : Nat} {σ0 : ib_H} {Q : ib_O → Prop} {K : jc_K} {l1 : Int} (hl1 : jb_r l1) {r : (jc_K × Int)} (h : fc9 K l1 = some r) (k : ∀ σ, jc_S σ0 r.1 σ → jb_r r.2 → Q (.inl (some (jb_v r.2)), σ)) : jc_W σ0 K (d + 2) 9 0 [some (.ref 66), some (jb_v l1), none] [] Q := by
  intro σ s
  unfold fc9 at h
  refine jaL0 (p := 1) rfl jM9 jq9_0 ?_
  refine jiL1 (p := 2) rfl jM9 jq9_1 ?_
  refine jw_callV [(jb_v l1)] jM9 jq9_2 rfl rfl (jo_66 s.1) rfl jM2 rfl rfl ?_
  obtain ⟨x1, b2, h2⟩ := jo_b h
  refine jd2 hl1 b2 (fun σ1 s1 r1 => ?_) σ s
  show jb_w (d + 2) 9 5 [some (.ref 66), some (jb_v l1), none] [(jb_v (x1.2))] σ1 Q
  refine jiS2 (p := 6) rfl jM9 jq9_5 ?_
  refine jiL2 (p := 7) rfl jM9 jq9_6 ?_
  refine jw_if (p := 10) rfl jM9 jq9_7 (jc_lt r1 jb_r0) (fun c3 => ?_) (fun c3 => ?_)
  · have h3 := jo_p c3 h2
    refine jw_iconst (p := 16) rfl jM9 jq9_15 ?_
    cases h3
    exact jw_iret jM9 jq9_16 (fun _ => Or.inr rfl) (k σ1 s1 (jb_rn rfl))
  · have h3 := jo_n c3 h2
    refine jiL2 (p := 11) rfl jM9 jq9_10 ?_
    refine jw_iconst (p := 12) rfl jM9 jq9_11 ?_
    refine jw_ic (p := 15) rfl jM9 jq9_12 (jc_lt r1 (jb_rn rfl)) (fun c4 => ?_) (fun c4 => ?_)
    · have h4 := jo_p c4 h3
      refine jaL0 (p := 18) rfl jM9 jq9_17 ?_
      refine jw_getP (p := 21) (i := 0) (q := 3) rfl jM9 jq9_18 rfl (jo_66 s1.1) je_0_0 (jp_66_0 s1.1) ?_
      refine jiL1 (p := 22) rfl jM9 jq9_21 ?_
      refine jaL0 (p := 23) rfl jM9 jq9_22 ?_
      refine jw_getP (p := 26) (i := 1) (q := 67) rfl jM9 jq9_23 rfl (jo_66 s1.1) je_0_1 (jp_66_1 s1.1) ?_
      refine jiL2 (p := 27) rfl jM9 jq9_26 ?_
      obtain ⟨c5, h5⟩ := jo_i h4
      refine jw_aald (p := 28) rfl jM9 jq9_27 (ja_67 s1.1) (Or.inl rfl) c5.1 c5.2 (jb_Fqf s1.1 c5.1 c5.2) ?_
      refine jw_callV [(jb_v l1), (.ref (71 + 2 * Int.toNat (x1.2)))] jM9 jq9_28 rfl rfl (jo_3 s1.1) rfl jM14 rfl rfl ?_
      obtain ⟨x6, b7, h7⟩ := jo_b h5
      refine jd14 hl1 b7 (fun σ6 s6 r6 => ?_) σ1 s1
      show jb_w (d + 2) 9 31 [some (.ref 66), some (jb_v l1), some (jb_v (x1.2))] [(jb_v (x6.2))] σ6 Q
      refine jw_if (p := 34) rfl jM9 jq9_31 (jc_ne r6 jb_r0) (fun c8 => ?_) (fun c8 => ?_)
      · have h8 := jo_n c8 h7
        refine jaL0 (p := 37) rfl jM9 jq9_36 ?_
        refine jw_getP (p := 40) (i := 4) (q := 70) rfl jM9 jq9_37 rfl (jo_66 s6.1) je_0_4 (jp_66_4 s6.1) ?_
        refine jiL2 (p := 41) rfl jM9 jq9_40 ?_
        refine jw_iconst (p := 42) rfl jM9 jq9_41 ?_
        refine jc_iast (p := 43) rfl jM9 jq9_42 (ja_70 s6.1) c5.1 c5.2 s6 (by decide) (jb_rn rfl) ?_
        intro σ9 s9
        refine jw_iconst (p := 44) rfl jM9 jq9_43 ?_
        cases h8
        exact jw_iret jM9 jq9_44 (fun _ => Or.inr rfl) (k σ9 s9 (jb_rn rfl))
      · have h8 := jo_p (Decidable.byContradiction c8) h7
        refine jw_iconst (p := 35) rfl jM9 jq9_34 ?_
        cases h8
        exact jw_iret jM9 jq9_35 (fun _ => Or.inl rfl) (k σ6 s6 (jb_rn rfl))
    · have h4 := jo_n c4 h3
      refine jw_iconst (p := 16) rfl jM9 jq9_15 ?_
      cases h4
      exact jw_iret jM9 jq9_16 (fun _ => Or.inr rfl) (k σ1 s1 (jb_rn rfl))
-- 10 PageLoom$Cache.tellDiffering need 0
def fc10_47 : Nat → jc_K → Nat → Int → Option (jc_K × Int)
  | 0, _, _, _ => none
  | m + 1, K, l1, l2 => if 4 ≤ l2 then (some (K, 0)) else (if 0 ≤ l2 ∧ l2 < 4 then if jc_i K 68 l2 < 0 then (if -2147483648 ≤ (l2 + 1) ∧ (l2 + 1) < 2147483648 then fc10_47 m K l1 (l2 + 1) else none) else (if jc_rc K l1 then jo_ln (jc_p K l1 12) fun q6 => if jc_ta K q6 24 then if 24 ≤ jc_i K 68 l2 then (if -2147483648 ≤ (l2 + 1) ∧ (l2 + 1) < 2147483648 then fc10_47 m K l1 (l2 + 1) else none) else (jo_ln (jc_p K l1 12) fun q11 => if jc_ta K q11 24 then if 0 ≤ (jc_i K 68 l2) ∧ (jc_i K 68 l2) < 24 then if -2147483648 ≤ (l2 + 1) ∧ (l2 + 1) < 2147483648 then fc10_47 m (jc_ui K q11 (jc_i K 68 l2) (jc_i K 70 l2)) l1 (l2 + 1) else none else none else none) else none else none) else none)
theorem jd10_47 {d : Nat} {σ0 : ib_H} {Q : ib_O → Prop} : ∀ (m : Nat) {K : jc_K} {l1 : Nat} {l2 : Int} {o3 : Option Value} (hl2 : jb_r l2) {r : (jc_K × Int)} (h : fc10_47 m K l1 l2 = some r) (k : ∀ σ, jc_S σ0 r.1 σ → Q (.inl none, σ)), jc_W σ0 K d 10 47 [some (.ref 66), some (.ref l1), some (jb_v l2), o3] [] Q := by
  intro m
  induction m with
  | zero =>
    intro K l1 l2 o3 hl2 r h k
    cases h
  | succ m ih =>
    intro K l1 l2 o3 hl2 r h k σ s
    unfold fc10_47 at h
    refine jiL2 (p := 48) rfl jM10 jq10_47 ?_
    refine jw_iconst (p := 49) rfl jM10 jq10_48 ?_
    refine jw_ic (p := 52) rfl jM10 jq10_49 (jc_ge hl2 (jb_rn rfl)) (fun c1 => ?_) (fun c1 => ?_)
    · have h1 := jo_p c1 h
      cases h1
      exact jw_vret jM10 jq10_90 (k σ s)
    · have h1 := jo_n c1 h
      refine jaL0 (p := 53) rfl jM10 jq10_52 ?_
      refine jw_getP (p := 56) (i := 2) (q := 68) rfl jM10 jq10_53 rfl (jo_66 s.1) je_0_2 (jp_66_2 s.1) ?_
      refine jiL2 (p := 57) rfl jM10 jq10_56 ?_
      obtain ⟨c2, h2⟩ := jo_i h1
      refine jc_iald (p := 58) rfl jM10 jq10_57 (ja_68 s.1) c2.1 c2.2 s (by decide) rfl ?_
      refine jiS3 (p := 59) rfl jM10 jq10_58 ?_
      refine jiL3 (p := 60) rfl jM10 jq10_59 ?_
      refine jw_if (p := 63) rfl jM10 jq10_60 (jc_lt (s.r _ _) jb_r0) (fun c3 => ?_) (fun c3 => ?_)
      · have h3 := jo_p c3 h2
        refine jiI2 (p := 87) rfl jM10 jq10_84 ?_
        refine jw_goto jM10 jq10_87 ?_
        obtain ⟨c4, h4⟩ := jo_i h3
        exact ih c4 h4 k σ s
      · have h3 := jo_n c3 h2
        refine jiL3 (p := 64) rfl jM10 jq10_63 ?_
        refine jaL1 (p := 65) rfl jM10 jq10_64 ?_
        obtain ⟨c5, h5⟩ := jo_i h3
        obtain ⟨q6, e7, h7⟩ := jo_lnb h5
        refine jc_getP (p := 68) (i := 12) rfl jM10 jq10_65 rfl (s.rc c5).ob je_3_12 s (by decide) e7 ?_
        obtain ⟨c8, h8⟩ := jo_i h7
        refine jw_alen (p := 69) rfl jM10 jq10_68 (s.ta c8 (by decide)) (by decide) ?_
        refine jw_ic (p := 72) rfl jM10 jq10_69 (jc_ge (s.r _ _) (jb_rn rfl)) (fun c9 => ?_) (fun c9 => ?_)
        · have h9 := jo_p c9 h8
          refine jiI2 (p := 87) rfl jM10 jq10_84 ?_
          refine jw_goto jM10 jq10_87 ?_
          obtain ⟨c10, h10⟩ := jo_i h9
          exact ih c10 h10 k σ s
        · have h9 := jo_n c9 h8
          refine jaL1 (p := 73) rfl jM10 jq10_72 ?_
          obtain ⟨q11, e12, h12⟩ := jo_lnb h9
          refine jc_getP (p := 76) (i := 12) rfl jM10 jq10_73 rfl (s.rc c5).ob je_3_12 s (by decide) e12 ?_
          refine jiL3 (p := 77) rfl jM10 jq10_76 ?_
          refine jaL0 (p := 78) rfl jM10 jq10_77 ?_
          refine jw_getP (p := 81) (i := 4) (q := 70) rfl jM10 jq10_78 rfl (jo_66 s.1) je_0_4 (jp_66_4 s.1) ?_
          refine jiL2 (p := 82) rfl jM10 jq10_81 ?_
          refine jc_iald (p := 83) rfl jM10 jq10_82 (ja_70 s.1) c2.1 c2.2 s (by decide) rfl ?_
          obtain ⟨c13, h13⟩ := jo_i h12
          obtain ⟨c14, h14⟩ := jo_i h13
          refine jc_iast (p := 84) rfl jM10 jq10_83 (s.ta c13 (by decide)) c14.1 c14.2 s (jc_tad c13) (s.r _ _) ?_
          intro σ15 s15
          refine jiI2 (p := 87) rfl jM10 jq10_84 ?_
          refine jw_goto jM10 jq10_87 ?_
          obtain ⟨c16, h16⟩ := jo_i h14
          exact ih c16 h16 k σ15 s15
def fc10_17 : Nat → jc_K → Nat → Int → Option (jc_K × Int)
  | 0, _, _, _ => none
  | m + 1, K, l1, l2 => if 24 ≤ l2 then (fc10_47 jo_N K l1 0) else (if jc_rc K l1 then jo_ln (jc_p K l1 12) fun q3 => if jc_ta K q3 24 then jo_ln (jc_p K l1 12) fun q6 => if jc_ta K q6 24 then if 0 ≤ l2 ∧ l2 < 24 then if -2147483648 ≤ (l2 + 1) ∧ (l2 + 1) < 2147483648 then fc10_17 m (jc_ui K q6 l2 0) l1 (l2 + 1) else none else none else none else none else none)
theorem jd10_17 {d : Nat} {σ0 : ib_H} {Q : ib_O → Prop} : ∀ (m : Nat) {K : jc_K} {l1 : Nat} {l2 : Int} (hl2 : jb_r l2) {r : (jc_K × Int)} (h : fc10_17 m K l1 l2 = some r) (k : ∀ σ, jc_S σ0 r.1 σ → Q (.inl none, σ)), jc_W σ0 K d 10 17 [some (.ref 66), some (.ref l1), some (jb_v l2), none] [] Q := by
  intro m
  induction m with
  | zero =>
    intro K l1 l2 hl2 r h k
    cases h
  | succ m ih =>
    intro K l1 l2 hl2 r h k σ s
    unfold fc10_17 at h
    refine jiL2 (p := 18) rfl jM10 jq10_17 ?_
    refine jw_bipush (p := 20) rfl jM10 jq10_18 (by decide) ?_
    refine jw_ic (p := 23) rfl jM10 jq10_20 (jc_ge hl2 (jb_rn rfl)) (fun c1 => ?_) (fun c1 => ?_)
    · have h1 := jo_p c1 h
      refine jw_iconst (p := 46) rfl jM10 jq10_45 ?_
      refine jiS2 (p := 47) rfl jM10 jq10_46 ?_
      exact jd10_47 jo_N (jb_rn rfl) h1 k σ s
    · have h1 := jo_n c1 h
      refine jiL2 (p := 24) rfl jM10 jq10_23 ?_
      refine jaL1 (p := 25) rfl jM10 jq10_24 ?_
      obtain ⟨c2, h2⟩ := jo_i h1
      obtain ⟨q3, e4, h4⟩ := jo_lnb h2
      refine jc_getP (p := 28) (i := 12) rfl jM10 jq10_25 rfl (s.rc c2).ob je_3_12 s (by decide) e4 ?_
      obtain ⟨c5, h5⟩ := jo_i h4
      refine jw_alen (p := 29) rfl jM10 jq10_28 (s.ta c5 (by decide)) (by decide) ?_
      refine jw_ic (p := 32) rfl jM10 jq10_29 (jc_ge hl2 (jb_rn rfl)) (fun z => absurd z c1) (fun _ => ?_)
      refine jaL1 (p := 33) rfl jM10 jq10_32 ?_
      obtain ⟨q6, e7, h7⟩ := jo_lnb h5
      refine jc_getP (p := 36) (i := 12) rfl jM10 jq10_33 rfl (s.rc c2).ob je_3_12 s (by decide) e7 ?_
      refine jiL2 (p := 37) rfl jM10 jq10_36 ?_
      refine jw_iconst (p := 38) rfl jM10 jq10_37 ?_
      obtain ⟨c8, h8⟩ := jo_i h7
      obtain ⟨c9, h9⟩ := jo_i h8
      refine jc_iast (p := 39) rfl jM10 jq10_38 (s.ta c8 (by decide)) c9.1 c9.2 s (jc_tad c8) (jb_rn rfl) ?_
      intro σ10 s10
      refine jiI2 (p := 42) rfl jM10 jq10_39 ?_
      refine jw_goto jM10 jq10_42 ?_
      obtain ⟨c11, h11⟩ := jo_i h9
      exact ih c11 h11 k σ10 s10
def fc10 (K : jc_K) (l1 : Nat) : Option (jc_K × Int) := if jc_rc K l1 then jo_ln (jc_p K l1 12) fun q2 => if q2 = 0 then (jo_ln (K.1.1) fun q5 => if jc_rc (jc_na K 24) l1 then fc10_17 jo_N (jc_up (jc_na K 24) l1 12 q5) l1 0 else none) else (fc10_17 jo_N K l1 0) else none
theorem jd10 {d : Nat} {σ0 : ib_H} {Q : ib_O → Prop} {K : jc_K} {l1 : Nat} {r : (jc_K × Int)} (h : fc10 K l1 = some r) (k : ∀ σ, jc_S σ0 r.1 σ → Q (.inl none, σ)) : jc_W σ0 K d 10 0 [some (.ref 66), some (.ref l1), none, none] [] Q := by
  intro σ s
  unfold fc10 at h
  refine jaL1 (p := 1) rfl jM10 jq10_0 ?_
  obtain ⟨c1, h1⟩ := jo_i h
  obtain ⟨q2, e3, h3⟩ := jo_lnb h1
  refine jc_getP (p := 4) (i := 12) rfl jM10 jq10_1 rfl (s.rc c1).ob je_3_12 s (by decide) e3 ?_
  refine jw_ifnonnull (p := 7) rfl jM10 jq10_4 (fun c4 => ?_) (fun c4 => ?_)
  · have h4 := jo_n c4 h3
    refine jw_iconst (p := 16) rfl jM10 jq10_15 ?_
    refine jiS2 (p := 17) rfl jM10 jq10_16 ?_
    exact jd10_17 jo_N (jb_rn rfl) h4 k σ s
  · have h4 := jo_p c4 h3
    refine jaL1 (p := 8) rfl jM10 jq10_7 ?_
    refine jw_bipush (p := 10) rfl jM10 jq10_8 (by decide) ?_
    obtain ⟨q5, e6, h6⟩ := jo_lnb h4
    refine jc_nar (n := 24) (p := 12) rfl jM10 jq10_10 (by decide) s e6 ?_
    intro σ7 s7
    obtain ⟨c8, h8⟩ := jo_i h6
    refine jc_putP (p := 15) (i := 12) rfl jM10 jq10_12 rfl (s7.rc c8).ob je_3_12 (s.nx1 e6) s7 (Or.inr c8.1.1) (by decide) ?_
    intro σ9 s9
    refine jw_iconst (p := 16) rfl jM10 jq10_15 ?_
    refine jiS2 (p := 17) rfl jM10 jq10_16 ?_
    exact jd10_17 jo_N (jb_rn rfl) h8 k σ9 s9
-- 13 PageLoom$Disk.makeDurable need 1
def fc13 (K : jc_K) (l1 : Int) : Option (jc_K × Int) := if l1 ≤ jc_i K 3 8 then ((fc12 K 0).bind fun x2 => if -2147483648 ≤ ((jc_i (x2.1) 3 8) + (x2.2)) ∧ ((jc_i (x2.1) 3 8) + (x2.2)) < 2147483648 then if x2.2 = 0 then (some (jc_ui (x2.1) 3 8 ((jc_i (x2.1) 3 8) + (x2.2)), 1)) else (some (jc_ui (x2.1) 3 8 ((jc_i (x2.1) 3 8) + (x2.2)), 0)) else none) else (if -2147483648 ≤ (l1 - (jc_i K 3 8)) ∧ (l1 - (jc_i K 3 8)) < 2147483648 then (fc12 K (l1 - (jc_i K 3 8))).bind fun x8 => if -2147483648 ≤ ((jc_i (x8.1) 3 8) + (x8.2)) ∧ ((jc_i (x8.1) 3 8) + (x8.2)) < 2147483648 then if x8.2 = l1 - (jc_i K 3 8) then (some (jc_ui (x8.1) 3 8 ((jc_i (x8.1) 3 8) + (x8.2)), 1)) else (some (jc_ui (x8.1) 3 8 ((jc_i (x8.1) 3 8) + (x8.2)), 0)) else none else none)
theorem jd13 {d : Nat} {σ0 : ib_H} {Q : ib_O → Prop} {K : jc_K} {l1 : Int} (hl1 : jb_r l1) {r : (jc_K × Int)} (h : fc13 K l1 = some r) (k : ∀ σ, jc_S σ0 r.1 σ → jb_r r.2 → Q (.inl (some (jb_v r.2)), σ)) : jc_W σ0 K (d + 1) 13 0 [some (.ref 3), some (jb_v l1), none, none] [] Q := by
  intro σ s
  unfold fc13 at h
  refine jiL1 (p := 1) rfl jM13 jq13_0 ?_
  refine jaL0 (p := 2) rfl jM13 jq13_1 ?_
  refine jc_getI (p := 5) (i := 8) rfl jM13 jq13_2 rfl (jo_3 s.1) jn_1_8 s (by decide) (by decide) rfl ?_
  refine jw_ic (p := 8) rfl jM13 jq13_5 (jc_le hl1 (s.r _ _)) (fun c1 => ?_) (fun c1 => ?_)
  · have h1 := jo_p c1 h
    refine jw_iconst (p := 18) rfl jM13 jq13_17 ?_
    refine jiS2 (p := 19) rfl jM13 jq13_18 ?_
    refine jaL0 (p := 20) rfl jM13 jq13_19 ?_
    refine jiL2 (p := 21) rfl jM13 jq13_20 ?_
    refine jw_callV [(jb_v 0)] jM13 jq13_21 rfl rfl (jo_3 s.1) rfl jM12 rfl rfl ?_
    obtain ⟨x2, b3, h3⟩ := jo_b h1
    refine jd12 (jb_rn rfl) b3 (fun σ2 s2 r2 => ?_) σ s
    show jb_w (d + 1) 13 24 [some (.ref 3), some (jb_v l1), some (jb_v 0), none] [(jb_v (x2.2))] σ2 Q
    refine jiS3 (p := 25) rfl jM13 jq13_24 ?_
    refine jaL0 (p := 26) rfl jM13 jq13_25 ?_
    refine jw_dupA (p := 27) rfl jM13 jq13_26 ?_
    refine jc_getI (p := 30) (i := 8) rfl jM13 jq13_27 rfl (jo_3 s2.1) jn_1_8 s2 (by decide) (by decide) rfl ?_
    refine jiL3 (p := 31) rfl jM13 jq13_30 ?_
    refine jw_iadd (p := 32) rfl jM13 jq13_31 ?_
    obtain ⟨c4, h4⟩ := jo_i h3
    refine jc_putI (p := 35) (i := 8) rfl jM13 jq13_32 rfl (jo_3 s2.1) (Or.inl jz_1_8) s2 (by decide) (by decide) c4 ?_
    intro σ5 s5
    refine jiL3 (p := 36) rfl jM13 jq13_35 ?_
    refine jiL2 (p := 37) rfl jM13 jq13_36 ?_
    refine jw_ic (p := 40) rfl jM13 jq13_37 (jc_ne r2 (jb_rn rfl)) (fun c6 => ?_) (fun c6 => ?_)
    · have h6 := jo_n c6 h4
      refine jw_iconst (p := 45) rfl jM13 jq13_44 ?_
      cases h6
      exact jw_iret jM13 jq13_45 (fun _ => Or.inl rfl) (k σ5 s5 (jb_rn rfl))
    · have h6 := jo_p (Decidable.byContradiction c6) h4
      refine jw_iconst (p := 41) rfl jM13 jq13_40 ?_
      refine jw_goto jM13 jq13_41 ?_
      cases h6
      exact jw_iret jM13 jq13_45 (fun _ => Or.inr rfl) (k σ5 s5 (jb_rn rfl))
  · have h1 := jo_n c1 h
    refine jiL1 (p := 9) rfl jM13 jq13_8 ?_
    refine jaL0 (p := 10) rfl jM13 jq13_9 ?_
    refine jc_getI (p := 13) (i := 8) rfl jM13 jq13_10 rfl (jo_3 s.1) jn_1_8 s (by decide) (by decide) rfl ?_
    refine jw_isub (p := 14) rfl jM13 jq13_13 ?_
    refine jw_goto jM13 jq13_14 ?_
    refine jiS2 (p := 19) rfl jM13 jq13_18 ?_
    refine jaL0 (p := 20) rfl jM13 jq13_19 ?_
    refine jiL2 (p := 21) rfl jM13 jq13_20 ?_
    obtain ⟨c7, h7⟩ := jo_i h1
    refine jw_callV [(jb_v (l1 - (jc_i K 3 8)))] jM13 jq13_21 rfl rfl (jo_3 s.1) rfl jM12 rfl rfl ?_
    obtain ⟨x8, b9, h9⟩ := jo_b h7
    refine jd12 c7 b9 (fun σ8 s8 r8 => ?_) σ s
    show jb_w (d + 1) 13 24 [some (.ref 3), some (jb_v l1), some (jb_v (l1 - (jc_i K 3 8))), none] [(jb_v (x8.2))] σ8 Q
    refine jiS3 (p := 25) rfl jM13 jq13_24 ?_
    refine jaL0 (p := 26) rfl jM13 jq13_25 ?_
    refine jw_dupA (p := 27) rfl jM13 jq13_26 ?_
    refine jc_getI (p := 30) (i := 8) rfl jM13 jq13_27 rfl (jo_3 s8.1) jn_1_8 s8 (by decide) (by decide) rfl ?_
    refine jiL3 (p := 31) rfl jM13 jq13_30 ?_
    refine jw_iadd (p := 32) rfl jM13 jq13_31 ?_
    obtain ⟨c10, h10⟩ := jo_i h9
    refine jc_putI (p := 35) (i := 8) rfl jM13 jq13_32 rfl (jo_3 s8.1) (Or.inl jz_1_8) s8 (by decide) (by decide) c10 ?_
    intro σ11 s11
    refine jiL3 (p := 36) rfl jM13 jq13_35 ?_
    refine jiL2 (p := 37) rfl jM13 jq13_36 ?_
    refine jw_ic (p := 40) rfl jM13 jq13_37 (jc_ne r8 c7) (fun c12 => ?_) (fun c12 => ?_)
    · have h12 := jo_n c12 h10
      refine jw_iconst (p := 45) rfl jM13 jq13_44 ?_
      cases h12
      exact jw_iret jM13 jq13_45 (fun _ => Or.inl rfl) (k σ11 s11 (jb_rn rfl))
    · have h12 := jo_p (Decidable.byContradiction c12) h10
      refine jw_iconst (p := 41) rfl jM13 jq13_40 ?_
      refine jw_goto jM13 jq13_41 ?_
      cases h12
      exact jw_iret jM13 jq13_45 (fun _ => Or.inr rfl) (k σ11 s11 (jb_rn rfl))
-- 16 PageLoom$Disk.spareMends need 1
def fc16 (K : jc_K) : Option (jc_K × Int) := if jc_i K 3 5 = jc_i K 3 6 then ((fc15 K (jc_i K 3 4)).bind fun x2 => if x2.2 = 0 then (some (x2.1, 0)) else (some (x2.1, 1))) else (some (K, 0))
theorem jd16 {d : Nat} {σ0 : ib_H} {Q : ib_O → Prop} {K : jc_K} {r : (jc_K × Int)} (h : fc16 K  = some r) (k : ∀ σ, jc_S σ0 r.1 σ → jb_r r.2 → Q (.inl (some (jb_v r.2)), σ)) : jc_W σ0 K (d + 1) 16 0 [some (.ref 3)] [] Q := by
  intro σ s
  unfold fc16 at h
  refine jaL0 (p := 1) rfl jM16 jq16_0 ?_
  refine jc_getI (p := 4) (i := 5) rfl jM16 jq16_1 rfl (jo_3 s.1) jn_1_5 s (by decide) (by decide) rfl ?_
  refine jaL0 (p := 5) rfl jM16 jq16_4 ?_
  refine jc_getI (p := 8) (i := 6) rfl jM16 jq16_5 rfl (jo_3 s.1) jn_1_6 s (by decide) (by decide) rfl ?_
  refine jw_ic (p := 11) rfl jM16 jq16_8 (jc_ne (s.r _ _) (s.r _ _)) (fun c1 => ?_) (fun c1 => ?_)
  · have h1 := jo_n c1 h
    refine jw_iconst (p := 27) rfl jM16 jq16_26 ?_
    cases h1
    exact jw_iret jM16 jq16_27 (fun _ => Or.inl rfl) (k σ s (jb_rn rfl))
  · have h1 := jo_p (Decidable.byContradiction c1) h
    refine jaL0 (p := 12) rfl jM16 jq16_11 ?_
    refine jaL0 (p := 13) rfl jM16 jq16_12 ?_
    refine jc_getI (p := 16) (i := 4) rfl jM16 jq16_13 rfl (jo_3 s.1) jn_1_4 s (by decide) (by decide) rfl ?_
    refine jw_callV [(jb_v (jc_i K 3 4))] jM16 jq16_16 rfl rfl (jo_3 s.1) rfl jM15 rfl rfl ?_
    obtain ⟨x2, b3, h3⟩ := jo_b h1
    refine jd15 (s.r _ _) b3 (fun σ2 s2 r2 => ?_) σ s
    show jb_w (d + 1) 16 19 [some (.ref 3)] [(jb_v (x2.2))] σ2 Q
    refine jw_if (p := 22) rfl jM16 jq16_19 (jc_eq r2 jb_r0) (fun c4 => ?_) (fun c4 => ?_)
    · have h4 := jo_p c4 h3
      refine jw_iconst (p := 27) rfl jM16 jq16_26 ?_
      cases h4
      exact jw_iret jM16 jq16_27 (fun _ => Or.inl rfl) (k σ2 s2 (jb_rn rfl))
    · have h4 := jo_n c4 h3
      refine jw_iconst (p := 23) rfl jM16 jq16_22 ?_
      refine jw_goto jM16 jq16_23 ?_
      cases h4
      exact jw_iret jM16 jq16_27 (fun _ => Or.inr rfl) (k σ2 s2 (jb_rn rfl))
-- 17 PageLoom$Disk.mendFromSpare need 1
def fc17 (K : jc_K) : Option (jc_K × Int) := if jc_i K 3 4 < 0 then (some (K, 0)) else (if jc_i K 3 4 < 24 then ((fc12 K 2).bind fun x3 => if x3.2 ≤ 0 then (if x3.2 ≤ 1 then (some (x3.1, x3.2)) else (if 0 ≤ (jc_i (x3.1) 3 4) ∧ (jc_i (x3.1) 3 4) < 24 then (fc35 (jc_ui (x3.1) 6 (jc_i (x3.1) 3 4) (jc_i (x3.1) 3 6)) (9 + 2 * Int.toNat (jc_i (x3.1) 3 4)) 7).bind fun x9 => some (x9.1, x3.2) else none)) else (if 0 ≤ (jc_i (x3.1) 3 4) ∧ (jc_i (x3.1) 3 4) < 24 then if x3.2 ≤ 1 then (some (jc_ui (x3.1) 5 (jc_i (x3.1) 3 4) (jc_i (x3.1) 3 5), x3.2)) else ((fc35 (jc_ui (jc_ui (x3.1) 5 (jc_i (x3.1) 3 4) (jc_i (x3.1) 3 5)) 6 (jc_i (x3.1) 3 4) (jc_i (x3.1) 3 6)) (9 + 2 * Int.toNat (jc_i (x3.1) 3 4)) 7).bind fun x15 => some (x15.1, x3.2)) else none)) else (some (K, 0)))
theorem jd17 {d : Nat} {σ0 : ib_H} {Q : ib_O → Prop} {K : jc_K} {r : (jc_K × Int)} (h : fc17 K  = some r) (k : ∀ σ, jc_S σ0 r.1 σ → jb_r r.2 → Q (.inl (some (jb_v r.2)), σ)) : jc_W σ0 K (d + 1) 17 0 [some (.ref 3), none] [] Q := by
  intro σ s
  unfold fc17 at h
  refine jaL0 (p := 1) rfl jM17 jq17_0 ?_
  refine jc_getI (p := 4) (i := 4) rfl jM17 jq17_1 rfl (jo_3 s.1) jn_1_4 s (by decide) (by decide) rfl ?_
  refine jw_if (p := 7) rfl jM17 jq17_4 (jc_lt (s.r _ _) jb_r0) (fun c1 => ?_) (fun c1 => ?_)
  · have h1 := jo_p c1 h
    refine jw_iconst (p := 17) rfl jM17 jq17_16 ?_
    cases h1
    exact jw_iret jM17 jq17_17 (fun z => absurd z (by decide)) (k σ s (jb_rn rfl))
  · have h1 := jo_n c1 h
    refine jaL0 (p := 8) rfl jM17 jq17_7 ?_
    refine jc_getI (p := 11) (i := 4) rfl jM17 jq17_8 rfl (jo_3 s.1) jn_1_4 s (by decide) (by decide) rfl ?_
    refine jw_bipush (p := 13) rfl jM17 jq17_11 (by decide) ?_
    refine jw_ic (p := 16) rfl jM17 jq17_13 (jc_lt (s.r _ _) (jb_rn rfl)) (fun c2 => ?_) (fun c2 => ?_)
    · have h2 := jo_p c2 h1
      refine jaL0 (p := 19) rfl jM17 jq17_18 ?_
      refine jw_iconst (p := 20) rfl jM17 jq17_19 ?_
      refine jw_callV [(jb_v 2)] jM17 jq17_20 rfl rfl (jo_3 s.1) rfl jM12 rfl rfl ?_
      obtain ⟨x3, b4, h4⟩ := jo_b h2
      refine jd12 (jb_rn rfl) b4 (fun σ3 s3 r3 => ?_) σ s
      show jb_w (d + 1) 17 23 [some (.ref 3), none] [(jb_v (x3.2))] σ3 Q
      refine jiS1 (p := 24) rfl jM17 jq17_23 ?_
      refine jiL1 (p := 25) rfl jM17 jq17_24 ?_
      refine jw_if (p := 28) rfl jM17 jq17_25 (jc_le r3 jb_r0) (fun c5 => ?_) (fun c5 => ?_)
      · have h5 := jo_p c5 h4
        refine jiL1 (p := 42) rfl jM17 jq17_41 ?_
        refine jw_iconst (p := 43) rfl jM17 jq17_42 ?_
        refine jw_ic (p := 46) rfl jM17 jq17_43 (jc_le r3 (jb_rn rfl)) (fun c6 => ?_) (fun c6 => ?_)
        · have h6 := jo_p c6 h5
          refine jiL1 (p := 76) rfl jM17 jq17_75 ?_
          cases h6
          exact jw_iret jM17 jq17_76 (fun z => absurd z (by decide)) (k σ3 s3 r3)
        · have h6 := jo_n c6 h5
          refine jaL0 (p := 47) rfl jM17 jq17_46 ?_
          refine jw_getP (p := 50) (i := 2) (q := 6) rfl jM17 jq17_47 rfl (jo_3 s3.1) je_1_2 (jp_3_2 s3.1) ?_
          refine jaL0 (p := 51) rfl jM17 jq17_50 ?_
          refine jc_getI (p := 54) (i := 4) rfl jM17 jq17_51 rfl (jo_3 s3.1) jn_1_4 s3 (by decide) (by decide) rfl ?_
          refine jaL0 (p := 55) rfl jM17 jq17_54 ?_
          refine jc_getI (p := 58) (i := 6) rfl jM17 jq17_55 rfl (jo_3 s3.1) jn_1_6 s3 (by decide) (by decide) rfl ?_
          obtain ⟨c7, h7⟩ := jo_i h6
          refine jc_iast (p := 59) rfl jM17 jq17_58 (ja_6 s3.1) c7.1 c7.2 s3 (by decide) (s3.r _ _) ?_
          intro σ8 s8
          refine jaL0 (p := 60) rfl jM17 jq17_59 ?_
          refine jw_getP (p := 63) (i := 0) (q := 4) rfl jM17 jq17_60 rfl (jo_3 s8.1) je_1_0 (jp_3_0 s8.1) ?_
          refine jaL0 (p := 64) rfl jM17 jq17_63 ?_
          refine jc_getI (p := 67) (i := 4) rfl jM17 jq17_64 rfl (jo_3 s8.1) jn_1_4 s8 (by decide) (by decide) (jc_uN (by decide)) ?_
          refine jw_aald (p := 68) rfl jM17 jq17_67 (ja_4 s8.1) (Or.inl rfl) c7.1 c7.2 (jb_Fqd s8.1 c7.1 c7.2) ?_
          refine jaL0 (p := 69) rfl jM17 jq17_68 ?_
          refine jw_getP (p := 72) (i := 3) (q := 7) rfl jM17 jq17_69 rfl (jo_3 s8.1) je_1_3 (jp_3_3 s8.1) ?_
          refine jw_callV [(.ref 7)] jM17 jq17_72 rfl rfl (jb_Fpgd s8.1 c7.1 c7.2).ob rfl jM35 rfl rfl ?_
          obtain ⟨x9, b10, h10⟩ := jo_b h7
          refine jd35  b10 (fun σ9 s9 => ?_) σ8 s8
          show jb_w (d + 1) 17 75 [some (.ref 3), some (jb_v (x3.2))] [] σ9 Q
          refine jiL1 (p := 76) rfl jM17 jq17_75 ?_
          cases h10
          exact jw_iret jM17 jq17_76 (fun z => absurd z (by decide)) (k σ9 s9 r3)
      · have h5 := jo_n c5 h4
        refine jaL0 (p := 29) rfl jM17 jq17_28 ?_
        refine jw_getP (p := 32) (i := 1) (q := 5) rfl jM17 jq17_29 rfl (jo_3 s3.1) je_1_1 (jp_3_1 s3.1) ?_
        refine jaL0 (p := 33) rfl jM17 jq17_32 ?_
        refine jc_getI (p := 36) (i := 4) rfl jM17 jq17_33 rfl (jo_3 s3.1) jn_1_4 s3 (by decide) (by decide) rfl ?_
        refine jaL0 (p := 37) rfl jM17 jq17_36 ?_
        refine jc_getI (p := 40) (i := 5) rfl jM17 jq17_37 rfl (jo_3 s3.1) jn_1_5 s3 (by decide) (by decide) rfl ?_
        obtain ⟨c11, h11⟩ := jo_i h5
        refine jc_iast (p := 41) rfl jM17 jq17_40 (ja_5 s3.1) c11.1 c11.2 s3 (by decide) (s3.r _ _) ?_
        intro σ12 s12
        refine jiL1 (p := 42) rfl jM17 jq17_41 ?_
        refine jw_iconst (p := 43) rfl jM17 jq17_42 ?_
        refine jw_ic (p := 46) rfl jM17 jq17_43 (jc_le r3 (jb_rn rfl)) (fun c13 => ?_) (fun c13 => ?_)
        · have h13 := jo_p c13 h11
          refine jiL1 (p := 76) rfl jM17 jq17_75 ?_
          cases h13
          exact jw_iret jM17 jq17_76 (fun z => absurd z (by decide)) (k σ12 s12 r3)
        · have h13 := jo_n c13 h11
          refine jaL0 (p := 47) rfl jM17 jq17_46 ?_
          refine jw_getP (p := 50) (i := 2) (q := 6) rfl jM17 jq17_47 rfl (jo_3 s12.1) je_1_2 (jp_3_2 s12.1) ?_
          refine jaL0 (p := 51) rfl jM17 jq17_50 ?_
          refine jc_getI (p := 54) (i := 4) rfl jM17 jq17_51 rfl (jo_3 s12.1) jn_1_4 s12 (by decide) (by decide) (jc_uN (by decide)) ?_
          refine jaL0 (p := 55) rfl jM17 jq17_54 ?_
          refine jc_getI (p := 58) (i := 6) rfl jM17 jq17_55 rfl (jo_3 s12.1) jn_1_6 s12 (by decide) (by decide) (jc_uN (by decide)) ?_
          refine jc_iast (p := 59) rfl jM17 jq17_58 (ja_6 s12.1) c11.1 c11.2 s12 (by decide) (s3.r _ _) ?_
          intro σ14 s14
          refine jaL0 (p := 60) rfl jM17 jq17_59 ?_
          refine jw_getP (p := 63) (i := 0) (q := 4) rfl jM17 jq17_60 rfl (jo_3 s14.1) je_1_0 (jp_3_0 s14.1) ?_
          refine jaL0 (p := 64) rfl jM17 jq17_63 ?_
          refine jc_getI (p := 67) (i := 4) rfl jM17 jq17_64 rfl (jo_3 s14.1) jn_1_4 s14 (by decide) (by decide) ((jc_uN (by decide)).trans (jc_uN (by decide))) ?_
          refine jw_aald (p := 68) rfl jM17 jq17_67 (ja_4 s14.1) (Or.inl rfl) c11.1 c11.2 (jb_Fqd s14.1 c11.1 c11.2) ?_
          refine jaL0 (p := 69) rfl jM17 jq17_68 ?_
          refine jw_getP (p := 72) (i := 3) (q := 7) rfl jM17 jq17_69 rfl (jo_3 s14.1) je_1_3 (jp_3_3 s14.1) ?_
          refine jw_callV [(.ref 7)] jM17 jq17_72 rfl rfl (jb_Fpgd s14.1 c11.1 c11.2).ob rfl jM35 rfl rfl ?_
          obtain ⟨x15, b16, h16⟩ := jo_b h13
          refine jd35  b16 (fun σ15 s15 => ?_) σ14 s14
          show jb_w (d + 1) 17 75 [some (.ref 3), some (jb_v (x3.2))] [] σ15 Q
          refine jiL1 (p := 76) rfl jM17 jq17_75 ?_
          cases h16
          exact jw_iret jM17 jq17_76 (fun z => absurd z (by decide)) (k σ15 s15 r3)
    · have h2 := jo_n c2 h1
      refine jw_iconst (p := 17) rfl jM17 jq17_16 ?_
      cases h2
      exact jw_iret jM17 jq17_17 (fun z => absurd z (by decide)) (k σ s (jb_rn rfl))
-- 19 PageLoom$Log.at need 0
def fc19 (K : jc_K) (l1 : Int) : Option (jc_K × Nat) := if l1 < 1 then (some (K, 0)) else (if jc_i K 63 4 < l1 then (some (K, 0)) else (if 1100 < l1 then (some (K, 0)) else (if 0 ≤ (l1 - 1) ∧ (l1 - 1) < 1100 then jo_ln (jc_p K 64 (l1 - 1)) fun q5 => some (K, q5) else none)))
theorem jd19 {d : Nat} {σ0 : ib_H} {Q : ib_O → Prop} {K : jc_K} {l1 : Int} (hl1 : jb_r l1) {r : (jc_K × Nat)} (h : fc19 K l1 = some r) (k : ∀ σ, jc_S σ0 r.1 σ → Q (.inl (some (.ref r.2)), σ)) : jc_W σ0 K d 19 0 [some (.ref 63), some (jb_v l1)] [] Q := by
  intro σ s
  unfold fc19 at h
  refine jiL1 (p := 1) rfl jM19 jq19_0 ?_
  refine jw_iconst (p := 2) rfl jM19 jq19_1 ?_
  refine jw_ic (p := 5) rfl jM19 jq19_2 (jc_lt hl1 (jb_rn rfl)) (fun c1 => ?_) (fun c1 => ?_)
  · have h1 := jo_p c1 h
    refine jw_null (p := 32) rfl jM19 jq19_31 ?_
    cases h1
    exact jw_aret jM19 jq19_32 (k σ s)
  · have h1 := jo_n c1 h
    refine jiL1 (p := 6) rfl jM19 jq19_5 ?_
    refine jaL0 (p := 7) rfl jM19 jq19_6 ?_
    refine jc_getI (p := 10) (i := 4) rfl jM19 jq19_7 rfl (jo_63 s.1) jn_2_4 s (by decide) (by decide) rfl ?_
    refine jw_ic (p := 13) rfl jM19 jq19_10 (jc_gt hl1 (s.r _ _)) (fun c2 => ?_) (fun c2 => ?_)
    · have h2 := jo_p c2 h1
      refine jw_null (p := 32) rfl jM19 jq19_31 ?_
      cases h2
      exact jw_aret jM19 jq19_32 (k σ s)
    · have h2 := jo_n c2 h1
      refine jiL1 (p := 14) rfl jM19 jq19_13 ?_
      refine jw_sipush (p := 17) rfl jM19 jq19_14 (by decide) ?_
      refine jw_ic (p := 20) rfl jM19 jq19_17 (jc_gt hl1 (jb_rn rfl)) (fun c3 => ?_) (fun c3 => ?_)
      · have h3 := jo_p c3 h2
        refine jw_null (p := 32) rfl jM19 jq19_31 ?_
        cases h3
        exact jw_aret jM19 jq19_32 (k σ s)
      · have h3 := jo_n c3 h2
        refine jaL0 (p := 21) rfl jM19 jq19_20 ?_
        refine jw_getP (p := 24) (i := 2) (q := 64) rfl jM19 jq19_21 rfl (jo_63 s.1) je_2_2 (jp_63_2 s.1) ?_
        refine jiL1 (p := 25) rfl jM19 jq19_24 ?_
        refine jw_iconst (p := 26) rfl jM19 jq19_25 ?_
        refine jw_isub (p := 27) rfl jM19 jq19_26 ?_
        obtain ⟨c4, h4⟩ := jo_i h3
        obtain ⟨q5, e6, h6⟩ := jo_lnb h4
        refine jc_aald (p := 28) rfl jM19 jq19_27 (ja_64 s.1) (Or.inr rfl) c4.1 c4.2 s e6 ?_
        refine jw_goto jM19 jq19_28 ?_
        cases h6
        exact jw_aret jM19 jq19_32 (k σ s)
-- 25 PageLoom$LogRecord.begin need 0
def fc25 (K : jc_K) (l0 : Nat) (l1 : Int) (l2 : Int) (l3 : Int) (l4 : Int) : Option (jc_K × Int) := if jc_rc K l0 then some (jc_ui (jc_ui (jc_ui (jc_ui (jc_ui (jc_ui (jc_ui (jc_ui (jc_ui K l0 0 l1) l0 1 l2) l0 2 l3) l0 3 (-1)) l0 4 (-1)) l0 5 (-1)) l0 6 l4) l0 7 (-1)) l0 8 0, 0) else none
theorem jd25 {d : Nat} {σ0 : ib_H} {Q : ib_O → Prop} {K : jc_K} {l0 : Nat} {l1 : Int} {l2 : Int} {l3 : Int} {l4 : Int} (hl1 : jb_r l1) (hl2 : jb_r l2) (hl3 : jb_r l3) (hl4 : jb_r l4) {r : (jc_K × Int)} (h : fc25 K l0 l1 l2 l3 l4 = some r) (k : ∀ σ, jc_S σ0 r.1 σ → Q (.inl none, σ)) : jc_W σ0 K d 25 0 [some (.ref l0), some (jb_v l1), some (jb_v l2), some (jb_v l3), some (jb_v l4)] [] Q := by
  intro σ s
  unfold fc25 at h
  refine jaL0 (p := 1) rfl jM25 jq25_0 ?_
  refine jiL1 (p := 2) rfl jM25 jq25_1 ?_
  obtain ⟨c1, h1⟩ := jo_i h
  refine jc_putI (p := 5) (i := 0) rfl jM25 jq25_2 rfl (s.rc c1).ob (Or.inl jz_3_0) s (jc_rcd c1) (by decide) hl1 ?_
  intro σ2 s2
  refine jaL0 (p := 6) rfl jM25 jq25_5 ?_
  refine jiL2 (p := 7) rfl jM25 jq25_6 ?_
  refine jc_putI (p := 10) (i := 1) rfl jM25 jq25_7 rfl (s2.rc c1).ob (Or.inl jz_3_1) s2 (jc_rcd c1) (by decide) hl2 ?_
  intro σ3 s3
  refine jaL0 (p := 11) rfl jM25 jq25_10 ?_
  refine jiL3 (p := 12) rfl jM25 jq25_11 ?_
  refine jc_putI (p := 15) (i := 2) rfl jM25 jq25_12 rfl (s3.rc c1).ob (Or.inl jz_3_2) s3 (jc_rcd c1) (by decide) hl3 ?_
  intro σ4 s4
  refine jaL0 (p := 16) rfl jM25 jq25_15 ?_
  refine jw_iconst (p := 17) rfl jM25 jq25_16 ?_
  refine jc_putI (p := 20) (i := 3) rfl jM25 jq25_17 rfl (s4.rc c1).ob (Or.inl jz_3_3) s4 (jc_rcd c1) (by decide) (jb_rn rfl) ?_
  intro σ5 s5
  refine jaL0 (p := 21) rfl jM25 jq25_20 ?_
  refine jw_iconst (p := 22) rfl jM25 jq25_21 ?_
  refine jc_putI (p := 25) (i := 4) rfl jM25 jq25_22 rfl (s5.rc c1).ob (Or.inl jz_3_4) s5 (jc_rcd c1) (by decide) (jb_rn rfl) ?_
  intro σ6 s6
  refine jaL0 (p := 26) rfl jM25 jq25_25 ?_
  refine jw_iconst (p := 27) rfl jM25 jq25_26 ?_
  refine jc_putI (p := 30) (i := 5) rfl jM25 jq25_27 rfl (s6.rc c1).ob (Or.inl jz_3_5) s6 (jc_rcd c1) (by decide) (jb_rn rfl) ?_
  intro σ7 s7
  refine jaL0 (p := 31) rfl jM25 jq25_30 ?_
  refine jiL4 (p := 33) rfl jM25 jq25_31 ?_
  refine jc_putI (p := 36) (i := 6) rfl jM25 jq25_33 rfl (s7.rc c1).ob (Or.inl jz_3_6) s7 (jc_rcd c1) (by decide) hl4 ?_
  intro σ8 s8
  refine jaL0 (p := 37) rfl jM25 jq25_36 ?_
  refine jw_iconst (p := 38) rfl jM25 jq25_37 ?_
  refine jc_putI (p := 41) (i := 7) rfl jM25 jq25_38 rfl (s8.rc c1).ob (Or.inl jz_3_7) s8 (jc_rcd c1) (by decide) (jb_rn rfl) ?_
  intro σ9 s9
  refine jaL0 (p := 42) rfl jM25 jq25_41 ?_
  refine jw_iconst (p := 43) rfl jM25 jq25_42 ?_
  refine jc_putI (p := 46) (i := 8) rfl jM25 jq25_43 rfl (s9.rc c1).ob (Or.inl jz_3_8) s9 (jc_rcd c1) (by decide) (jb_rn rfl) ?_
  intro σ10 s10
  cases h1
  exact jw_vret jM25 jq25_46 (k σ10 s10)
-- 65 PageLoom$Transactions.noteRecord need 0
def fc65 (K : jc_K) (l1 : Int) (l2 : Int) : Option (jc_K × Int) := if l1 < 0 then (some (K, 0)) else (if l1 < 4 then (if 0 ≤ l1 ∧ l1 < 4 then some (jc_ui (jc_ui K 59 l1 l2) 60 l1 (jb_m ((jc_i K 60 l1) + 1)), jc_i K 59 l1) else none) else (some (K, 0)))
theorem jd65 {d : Nat} {σ0 : ib_H} {Q : ib_O → Prop} {K : jc_K} {l1 : Int} {l2 : Int} (hl1 : jb_r l1) (hl2 : jb_r l2) {r : (jc_K × Int)} (h : fc65 K l1 l2 = some r) (k : ∀ σ, jc_S σ0 r.1 σ → jb_r r.2 → Q (.inl (some (jb_v r.2)), σ)) : jc_W σ0 K d 65 0 [some (.ref 57), some (jb_v l1), some (jb_v l2), none] [] Q := by
  intro σ s
  unfold fc65 at h
  refine jiL1 (p := 1) rfl jM65 jq65_0 ?_
  refine jw_if (p := 4) rfl jM65 jq65_1 (jc_lt hl1 jb_r0) (fun c1 => ?_) (fun c1 => ?_)
  · have h1 := jo_p c1 h
    refine jw_iconst (p := 10) rfl jM65 jq65_9 ?_
    cases h1
    exact jw_iret jM65 jq65_10 (fun z => absurd z (by decide)) (k σ s (jb_rn rfl))
  · have h1 := jo_n c1 h
    refine jiL1 (p := 5) rfl jM65 jq65_4 ?_
    refine jw_iconst (p := 6) rfl jM65 jq65_5 ?_
    refine jw_ic (p := 9) rfl jM65 jq65_6 (jc_lt hl1 (jb_rn rfl)) (fun c2 => ?_) (fun c2 => ?_)
    · have h2 := jo_p c2 h1
      refine jaL0 (p := 12) rfl jM65 jq65_11 ?_
      refine jw_getP (p := 15) (i := 1) (q := 59) rfl jM65 jq65_12 rfl (jo_57 s.1) je_6_1 (jp_57_1 s.1) ?_
      refine jiL1 (p := 16) rfl jM65 jq65_15 ?_
      obtain ⟨c3, h3⟩ := jo_i h2
      refine jc_iald (p := 17) rfl jM65 jq65_16 (ja_59 s.1) c3.1 c3.2 s (by decide) rfl ?_
      refine jiS3 (p := 18) rfl jM65 jq65_17 ?_
      refine jaL0 (p := 19) rfl jM65 jq65_18 ?_
      refine jw_getP (p := 22) (i := 1) (q := 59) rfl jM65 jq65_19 rfl (jo_57 s.1) je_6_1 (jp_57_1 s.1) ?_
      refine jiL1 (p := 23) rfl jM65 jq65_22 ?_
      refine jiL2 (p := 24) rfl jM65 jq65_23 ?_
      refine jc_iast (p := 25) rfl jM65 jq65_24 (ja_59 s.1) c3.1 c3.2 s (by decide) hl2 ?_
      intro σ4 s4
      refine jaL0 (p := 26) rfl jM65 jq65_25 ?_
      refine jw_getP (p := 29) (i := 2) (q := 60) rfl jM65 jq65_26 rfl (jo_57 s4.1) je_6_2 (jp_57_2 s4.1) ?_
      refine jiL1 (p := 30) rfl jM65 jq65_29 ?_
      refine jw_dup2 (p := 31) rfl jM65 jq65_30 ?_
      refine jc_iald (p := 32) rfl jM65 jq65_31 (ja_60 s4.1) c3.1 c3.2 s4 (by decide) (jc_uN (by decide)) ?_
      refine jw_iconst (p := 33) rfl jM65 jq65_32 ?_
      refine jw_iadd (p := 34) rfl jM65 jq65_33 ?_
      refine jc_iasM (p := 35) rfl jM65 jq65_34 (ja_60 s4.1) c3.1 c3.2 s4 (by decide) ?_
      intro σ5 s5
      refine jiL3 (p := 36) rfl jM65 jq65_35 ?_
      cases h3
      exact jw_iret jM65 jq65_36 (fun z => absurd z (by decide)) (k σ5 s5 (s.r _ _))
    · have h2 := jo_n c2 h1
      refine jw_iconst (p := 10) rfl jM65 jq65_9 ?_
      cases h2
      exact jw_iret jM65 jq65_10 (fun z => absurd z (by decide)) (k σ s (jb_rn rfl))
-- 20 PageLoom$Log.append need 1
def fc20 (K : jc_K) (l1 : Int) (l2 : Int) : Option (jc_K × Nat) := if jc_i K 63 4 < 0 then (some (K, 0)) else (if jc_i K 63 4 < 1100 then (if 0 ≤ (jc_i K 63 4) ∧ (jc_i K 63 4) < 1100 then jo_ln (jc_p K 64 (jc_i K 63 4)) fun q4 => if q4 = 0 then (jo_ln (K.1.1) fun q14 => if 0 ≤ (jc_i (jc_nr K) 63 4) ∧ (jc_i (jc_nr K) 63 4) < 1100 then if jc_rc (jc_nr K) q14 then if -2147483648 ≤ ((jc_i (jc_nr K) 63 4) + 1) ∧ ((jc_i (jc_nr K) 63 4) + 1) < 2147483648 then (fc65 (jc_ui (jc_up (jc_nr K) 64 (jc_i (jc_nr K) 63 4) q14) 63 4 ((jc_i (jc_nr K) 63 4) + 1)) l2 ((jc_i (jc_nr K) 63 4) + 1)).bind fun x22 => if jc_rc (x22.1) q14 then (fc25 (x22.1) q14 ((jc_i (jc_nr K) 63 4) + 1) l1 l2 (x22.2)).bind fun x25 => some (x25.1, q14) else none else none else none else none) else (if -2147483648 ≤ ((jc_i K 63 4) + 1) ∧ ((jc_i K 63 4) + 1) < 2147483648 then (fc65 (jc_ui K 63 4 ((jc_i K 63 4) + 1)) l2 ((jc_i K 63 4) + 1)).bind fun x9 => if jc_rc (x9.1) q4 then (fc25 (x9.1) q4 ((jc_i K 63 4) + 1) l1 l2 (x9.2)).bind fun x12 => some (x12.1, q4) else none else none) else none) else (some (K, 0)))
theorem jd20 {d : Nat} {σ0 : ib_H} {Q : ib_O → Prop} {K : jc_K} {l1 : Int} {l2 : Int} (hl1 : jb_r l1) (hl2 : jb_r l2) {r : (jc_K × Nat)} (h : fc20 K l1 l2 = some r) (k : ∀ σ, jc_S σ0 r.1 σ → Q (.inl (some (.ref r.2)), σ)) : jc_W σ0 K (d + 1) 20 0 [some (.ref 63), some (jb_v l1), some (jb_v l2), none] [] Q := by
  intro σ s
  unfold fc20 at h
  refine jaL0 (p := 1) rfl jM20 jq20_0 ?_
  refine jc_getI (p := 4) (i := 4) rfl jM20 jq20_1 rfl (jo_63 s.1) jn_2_4 s (by decide) (by decide) rfl ?_
  refine jw_if (p := 7) rfl jM20 jq20_4 (jc_lt (s.r _ _) jb_r0) (fun c1 => ?_) (fun c1 => ?_)
  · have h1 := jo_p c1 h
    refine jw_null (p := 18) rfl jM20 jq20_17 ?_
    cases h1
    exact jw_aret jM20 jq20_18 (k σ s)
  · have h1 := jo_n c1 h
    refine jaL0 (p := 8) rfl jM20 jq20_7 ?_
    refine jc_getI (p := 11) (i := 4) rfl jM20 jq20_8 rfl (jo_63 s.1) jn_2_4 s (by decide) (by decide) rfl ?_
    refine jw_sipush (p := 14) rfl jM20 jq20_11 (by decide) ?_
    refine jw_ic (p := 17) rfl jM20 jq20_14 (jc_lt (s.r _ _) (jb_rn rfl)) (fun c2 => ?_) (fun c2 => ?_)
    · have h2 := jo_p c2 h1
      refine jaL0 (p := 20) rfl jM20 jq20_19 ?_
      refine jw_getP (p := 23) (i := 2) (q := 64) rfl jM20 jq20_20 rfl (jo_63 s.1) je_2_2 (jp_63_2 s.1) ?_
      refine jaL0 (p := 24) rfl jM20 jq20_23 ?_
      refine jc_getI (p := 27) (i := 4) rfl jM20 jq20_24 rfl (jo_63 s.1) jn_2_4 s (by decide) (by decide) rfl ?_
      obtain ⟨c3, h3⟩ := jo_i h2
      obtain ⟨q4, e5, h5⟩ := jo_lnb h3
      refine jc_aald (p := 28) rfl jM20 jq20_27 (ja_64 s.1) (Or.inr rfl) c3.1 c3.2 s e5 ?_
      refine jaS3 (p := 29) rfl jM20 jq20_28 ?_
      refine jaL3 (p := 30) rfl jM20 jq20_29 ?_
      refine jw_ifnonnull (p := 33) rfl jM20 jq20_30 (fun c6 => ?_) (fun c6 => ?_)
      · have h6 := jo_n c6 h5
        refine jaL0 (p := 52) rfl jM20 jq20_51 ?_
        refine jw_dupA (p := 53) rfl jM20 jq20_52 ?_
        refine jc_getI (p := 56) (i := 4) rfl jM20 jq20_53 rfl (jo_63 s.1) jn_2_4 s (by decide) (by decide) rfl ?_
        refine jw_iconst (p := 57) rfl jM20 jq20_56 ?_
        refine jw_iadd (p := 58) rfl jM20 jq20_57 ?_
        obtain ⟨c7, h7⟩ := jo_i h6
        refine jc_putI (p := 61) (i := 4) rfl jM20 jq20_58 rfl (jo_63 s.1) (Or.inl jz_2_4) s (by decide) (by decide) c7 ?_
        intro σ8 s8
        refine jaL3 (p := 62) rfl jM20 jq20_61 ?_
        refine jaL0 (p := 63) rfl jM20 jq20_62 ?_
        refine jc_getI (p := 66) (i := 4) rfl jM20 jq20_63 rfl (jo_63 s8.1) jn_2_4 s8 (by decide) (by decide) jc_uH ?_
        refine jiL1 (p := 67) rfl jM20 jq20_66 ?_
        refine jiL2 (p := 68) rfl jM20 jq20_67 ?_
        refine jaL0 (p := 69) rfl jM20 jq20_68 ?_
        refine jw_getP (p := 72) (i := 1) (q := 57) rfl jM20 jq20_69 rfl (jo_63 s8.1) je_2_1 (jp_63_1 s8.1) ?_
        refine jiL2 (p := 73) rfl jM20 jq20_72 ?_
        refine jaL0 (p := 74) rfl jM20 jq20_73 ?_
        refine jc_getI (p := 77) (i := 4) rfl jM20 jq20_74 rfl (jo_63 s8.1) jn_2_4 s8 (by decide) (by decide) jc_uH ?_
        refine jw_callV [(jb_v l2), (jb_v ((jc_i K 63 4) + 1))] jM20 jq20_77 rfl rfl (jo_57 s8.1) rfl jM65 rfl rfl ?_
        obtain ⟨x9, b10, h10⟩ := jo_b h7
        refine jd65 hl2 c7 b10 (fun σ9 s9 r9 => ?_) σ8 s8
        show jb_w (d + 1) 20 80 [some (.ref 63), some (jb_v l1), some (jb_v l2), some (.ref q4)] [(jb_v (x9.2)), (jb_v l2), (jb_v l1), (jb_v ((jc_i K 63 4) + 1)), (.ref q4)] σ9 Q
        obtain ⟨c11, h11⟩ := jo_i h10
        refine jw_callV [(jb_v ((jc_i K 63 4) + 1)), (jb_v l1), (jb_v l2), (jb_v (x9.2))] jM20 jq20_80 rfl rfl (s9.rc c11).ob rfl jM25 rfl rfl ?_
        obtain ⟨x12, b13, h13⟩ := jo_b h11
        refine jd25 c7 hl1 hl2 r9 b13 (fun σ12 s12 => ?_) σ9 s9
        show jb_w (d + 1) 20 83 [some (.ref 63), some (jb_v l1), some (jb_v l2), some (.ref q4)] [] σ12 Q
        refine jaL3 (p := 84) rfl jM20 jq20_83 ?_
        cases h13
        exact jw_aret jM20 jq20_84 (k σ12 s12)
      · have h6 := jo_p c6 h5
        obtain ⟨q14, e15, h15⟩ := jo_lnb h6
        refine jc_mkR' (p := 40) rfl jM20 jq20_33 jq20_36 jq20_37 rfl (by decide) s e15 ?_
        intro σ16 s16
        refine jaS3 (p := 41) rfl jM20 jq20_40 ?_
        refine jaL0 (p := 42) rfl jM20 jq20_41 ?_
        refine jw_getP (p := 45) (i := 2) (q := 64) rfl jM20 jq20_42 rfl (jo_63 s16.1) je_2_2 (jp_63_2 s16.1) ?_
        refine jaL0 (p := 46) rfl jM20 jq20_45 ?_
        refine jc_getI (p := 49) (i := 4) rfl jM20 jq20_46 rfl (jo_63 s16.1) jn_2_4 s16 (by decide) (by decide) rfl ?_
        refine jaL3 (p := 50) rfl jM20 jq20_49 ?_
        obtain ⟨c17, h17⟩ := jo_i h15
        obtain ⟨c18, h18⟩ := jo_i h17
        refine jc_aast (p := 51) rfl jM20 jq20_50 (ja_64 s16.1) (Or.inr ⟨rfl, rfl⟩) c17.1 c17.2 (Or.inr (s16.rc c18).ob) s16 (Or.inl rfl) ?_
        intro σ19 s19
        refine jaL0 (p := 52) rfl jM20 jq20_51 ?_
        refine jw_dupA (p := 53) rfl jM20 jq20_52 ?_
        refine jc_getI (p := 56) (i := 4) rfl jM20 jq20_53 rfl (jo_63 s19.1) jn_2_4 s19 (by decide) (by decide) rfl ?_
        refine jw_iconst (p := 57) rfl jM20 jq20_56 ?_
        refine jw_iadd (p := 58) rfl jM20 jq20_57 ?_
        obtain ⟨c20, h20⟩ := jo_i h18
        refine jc_putI (p := 61) (i := 4) rfl jM20 jq20_58 rfl (jo_63 s19.1) (Or.inl jz_2_4) s19 (by decide) (by decide) c20 ?_
        intro σ21 s21
        refine jaL3 (p := 62) rfl jM20 jq20_61 ?_
        refine jaL0 (p := 63) rfl jM20 jq20_62 ?_
        refine jc_getI (p := 66) (i := 4) rfl jM20 jq20_63 rfl (jo_63 s21.1) jn_2_4 s21 (by decide) (by decide) jc_uH ?_
        refine jiL1 (p := 67) rfl jM20 jq20_66 ?_
        refine jiL2 (p := 68) rfl jM20 jq20_67 ?_
        refine jaL0 (p := 69) rfl jM20 jq20_68 ?_
        refine jw_getP (p := 72) (i := 1) (q := 57) rfl jM20 jq20_69 rfl (jo_63 s21.1) je_2_1 (jp_63_1 s21.1) ?_
        refine jiL2 (p := 73) rfl jM20 jq20_72 ?_
        refine jaL0 (p := 74) rfl jM20 jq20_73 ?_
        refine jc_getI (p := 77) (i := 4) rfl jM20 jq20_74 rfl (jo_63 s21.1) jn_2_4 s21 (by decide) (by decide) jc_uH ?_
        refine jw_callV [(jb_v l2), (jb_v ((jc_i (jc_nr K) 63 4) + 1))] jM20 jq20_77 rfl rfl (jo_57 s21.1) rfl jM65 rfl rfl ?_
        obtain ⟨x22, b23, h23⟩ := jo_b h20
        refine jd65 hl2 c20 b23 (fun σ22 s22 r22 => ?_) σ21 s21
        show jb_w (d + 1) 20 80 [some (.ref 63), some (jb_v l1), some (jb_v l2), some (.ref q14)] [(jb_v (x22.2)), (jb_v l2), (jb_v l1), (jb_v ((jc_i (jc_nr K) 63 4) + 1)), (.ref q14)] σ22 Q
        obtain ⟨c24, h24⟩ := jo_i h23
        refine jw_callV [(jb_v ((jc_i (jc_nr K) 63 4) + 1)), (jb_v l1), (jb_v l2), (jb_v (x22.2))] jM20 jq20_80 rfl rfl (s22.rc c24).ob rfl jM25 rfl rfl ?_
        obtain ⟨x25, b26, h26⟩ := jo_b h24
        refine jd25 c20 hl1 hl2 r22 b26 (fun σ25 s25 => ?_) σ22 s22
        show jb_w (d + 1) 20 83 [some (.ref 63), some (jb_v l1), some (jb_v l2), some (.ref q14)] [] σ25 Q
        refine jaL3 (p := 84) rfl jM20 jq20_83 ?_
        cases h26
        exact jw_aret jM20 jq20_84 (k σ25 s25)
    · have h2 := jo_n c2 h1
      refine jw_null (p := 18) rfl jM20 jq20_17 ?_
      cases h2
      exact jw_aret jM20 jq20_18 (k σ s)
