/-! paths of methods: written by wip/tools/gen23.py -/
theorem jb_arr.n1 {σ : ib_H} {t n len : Nat} (h : jb_arr σ t n len) : n ≠ 1 := Nat.ne_of_gt h.1
theorem jb_sw5 {x : Int} (c0 : ¬ x = 0) (c1 : ¬ x = 1) (c2 : ¬ x = 2) (c3 : ¬ x = 3) (c4 : ¬ x = 4) : x < 0 ∨ 4 < x := by omega
theorem jb_F64 {σ : ib_H} {i : Int} {q : Nat} (h : jb_F σ) : jb_F (jb_sp σ 64 i q) := by
  refine ⟨h.1, h.2.1, fun n k q9 hq => ?_⟩
  show ib_u (ib_P σ) 64 i.toNat q n k = q9
  unfold ib_u
  by_cases e : n = 64
  · subst e
    have : fx_p 64 k = none := rfl
    rw [this] at hq
    cases hq
  · rw [if_neg (fun z => e z.1)]
    exact h.2.2 n k q9 hq
theorem jw_swK {d mi pc : Nat} {ls : ib_Ls} {r : List Value} {σ : ib_H} {Q : ib_O → Prop} {M : ib_M} {a1 a2 a3 a4 p : Nat} {x d9 lo hi o : Int} {offs : Array Int} (k : Nat) (hM : ib_Ms mi = some M) (hq : M.2.2.2.2.2[pc]? = some (some (.tableswitch d9 lo hi offs, a1, a2, a3, a4))) (hx : jb_r x) (h1 : x = lo + k) (h2 : x ≤ hi) (ho : offs.toList[k]? = some o) (hp : (pc : Int) + o = (p : Int)) (h : jb_w d mi p ls r σ Q) : jb_w d mi pc ls (jb_v x :: r) σ Q := by
  refine jw_swI (o := o) hM hq hx (by omega) h2 ?_ hp h
  have e : (x - lo).toNat = k := by omega
  rw [e, ← Array.getElem?_toList]
  exact ho
theorem jb_or_pg {σ : ib_H} {q : Nat} (h : q ≠ 0 → jb_pg σ q) : q = 0 ∨ jb_ob σ 4 q := by
  by_cases e : q = 0
  · exact Or.inl e
  · exact Or.inr (h e).ob
theorem jb_or_rc {σ : ib_H} {q : Nat} (h : q ≠ 0 → jb_rc σ q) : q = 0 ∨ jb_ob σ 3 q := by
  by_cases e : q = 0
  · exact Or.inl e
  · exact Or.inr (h e).ob
-- 12 PageLoom$Disk.doWrites(I)I
theorem jk12_0 {d : Nat} {σ : ib_H} {Q : ib_O → Prop} {l1 : Int} (hF : jb_F σ) (hl1 : jb_r l1)
    (h : (jb_i σ 3 10 ≤ 0 → (jb_i σ 3 10 ≤ 0 → Q (.inl (some (jb_v l1)), jb_si σ 3 9 ((jb_i σ 3 9) + l1))) ∧ (¬ (jb_i σ 3 10 ≤ 0) → Q (.inl (some (jb_v l1)), jb_si (jb_si σ 3 10 ((jb_i σ 3 10) - l1)) 3 9 ((jb_i (jb_si σ 3 10 ((jb_i σ 3 10) - l1)) 3 9) + l1)))) ∧ (¬ (jb_i σ 3 10 ≤ 0) → (l1 < jb_i σ 3 10 → (jb_i σ 3 10 ≤ 0 → Q (.inl (some (jb_v l1)), jb_si σ 3 9 ((jb_i σ 3 9) + l1))) ∧ (¬ (jb_i σ 3 10 ≤ 0) → Q (.inl (some (jb_v l1)), jb_si (jb_si σ 3 10 ((jb_i σ 3 10) - l1)) 3 9 ((jb_i (jb_si σ 3 10 ((jb_i σ 3 10) - l1)) 3 9) + l1)))) ∧ (¬ (l1 < jb_i σ 3 10) → Q (.inl (some (jb_v ((jb_i σ 3 10) - 1))), jb_si (jb_si σ 3 10 0) 3 9 ((jb_i (jb_si σ 3 10 0) 3 9) + ((jb_i σ 3 10) - 1)))))) :
    jb_w d 12 0 [some (.ref 3), some (jb_v l1), none] [] σ Q := by
  refine jiL1 (p := 1) rfl jM12 jq12_0 ?_
  refine jiS2 (p := 2) rfl jM12 jq12_1 ?_
  refine jaL0 (p := 3) rfl jM12 jq12_2 ?_
  refine jw_getI (p := 6) (i := 10) rfl jM12 jq12_3 rfl (jo_3 hF) jn_1_10 ?_
  refine jw_if (p := 9) rfl jM12 jq12_6 (jc_le (jb_r_i _ _ _) jb_r0) (fun c1 => ?_) (fun c1 => ?_)
  · have h1 := h.1 c1
    refine jaL0 (p := 33) rfl jM12 jq12_32 ?_
    refine jw_getI (p := 36) (i := 10) rfl jM12 jq12_33 rfl (jo_3 hF) jn_1_10 ?_
    refine jw_if (p := 39) rfl jM12 jq12_36 (jc_le (jb_r_i _ _ _) jb_r0) (fun c2 => ?_) (fun c2 => ?_)
    · have h2 := h1.1 c2
      refine jaL0 (p := 50) rfl jM12 jq12_49 ?_
      refine jw_dupA (p := 51) rfl jM12 jq12_50 ?_
      refine jw_getI (p := 54) (i := 9) rfl jM12 jq12_51 rfl (jo_3 hF) jn_1_9 ?_
      refine jiL2 (p := 55) rfl jM12 jq12_54 ?_
      refine jw_iadd (p := 56) rfl jM12 jq12_55 ?_
      refine jw_putI (p := 59) (i := 9) rfl jM12 jq12_56 rfl (jo_3 hF) (Or.inl jz_1_9) ?_
      refine jiL2 (p := 60) rfl jM12 jq12_59 ?_
      exact jw_iret jM12 jq12_60 (fun z => absurd z (by decide)) h2
    · have h2 := h1.2 c2
      refine jaL0 (p := 40) rfl jM12 jq12_39 ?_
      refine jw_dupA (p := 41) rfl jM12 jq12_40 ?_
      refine jw_getI (p := 44) (i := 10) rfl jM12 jq12_41 rfl (jo_3 hF) jn_1_10 ?_
      refine jiL1 (p := 45) rfl jM12 jq12_44 ?_
      refine jw_isub (p := 46) rfl jM12 jq12_45 ?_
      refine jw_putI (p := 49) (i := 10) rfl jM12 jq12_46 rfl (jo_3 hF) (Or.inl jz_1_10) ?_
      refine jaL0 (p := 50) rfl jM12 jq12_49 ?_
      refine jw_dupA (p := 51) rfl jM12 jq12_50 ?_
      refine jw_getI (p := 54) (i := 9) rfl jM12 jq12_51 rfl (jo_3 hF) jn_1_9 ?_
      refine jiL2 (p := 55) rfl jM12 jq12_54 ?_
      refine jw_iadd (p := 56) rfl jM12 jq12_55 ?_
      refine jw_putI (p := 59) (i := 9) rfl jM12 jq12_56 rfl (jo_3 hF) (Or.inl jz_1_9) ?_
      refine jiL2 (p := 60) rfl jM12 jq12_59 ?_
      exact jw_iret jM12 jq12_60 (fun z => absurd z (by decide)) h2
  · have h1 := h.2 c1
    refine jaL0 (p := 10) rfl jM12 jq12_9 ?_
    refine jw_getI (p := 13) (i := 10) rfl jM12 jq12_10 rfl (jo_3 hF) jn_1_10 ?_
    refine jiL1 (p := 14) rfl jM12 jq12_13 ?_
    refine jw_ic (p := 17) rfl jM12 jq12_14 (jc_gt (jb_r_i _ _ _) hl1) (fun c3 => ?_) (fun c3 => ?_)
    · have h3 := h1.1 c3
      refine jaL0 (p := 33) rfl jM12 jq12_32 ?_
      refine jw_getI (p := 36) (i := 10) rfl jM12 jq12_33 rfl (jo_3 hF) jn_1_10 ?_
      refine jw_if (p := 39) rfl jM12 jq12_36 (jc_le (jb_r_i _ _ _) jb_r0) (fun c4 => ?_) (fun c4 => ?_)
      · have h4 := h3.1 c4
        refine jaL0 (p := 50) rfl jM12 jq12_49 ?_
        refine jw_dupA (p := 51) rfl jM12 jq12_50 ?_
        refine jw_getI (p := 54) (i := 9) rfl jM12 jq12_51 rfl (jo_3 hF) jn_1_9 ?_
        refine jiL2 (p := 55) rfl jM12 jq12_54 ?_
        refine jw_iadd (p := 56) rfl jM12 jq12_55 ?_
        refine jw_putI (p := 59) (i := 9) rfl jM12 jq12_56 rfl (jo_3 hF) (Or.inl jz_1_9) ?_
        refine jiL2 (p := 60) rfl jM12 jq12_59 ?_
        exact jw_iret jM12 jq12_60 (fun z => absurd z (by decide)) h4
      · have h4 := h3.2 c4
        refine jaL0 (p := 40) rfl jM12 jq12_39 ?_
        refine jw_dupA (p := 41) rfl jM12 jq12_40 ?_
        refine jw_getI (p := 44) (i := 10) rfl jM12 jq12_41 rfl (jo_3 hF) jn_1_10 ?_
        refine jiL1 (p := 45) rfl jM12 jq12_44 ?_
        refine jw_isub (p := 46) rfl jM12 jq12_45 ?_
        refine jw_putI (p := 49) (i := 10) rfl jM12 jq12_46 rfl (jo_3 hF) (Or.inl jz_1_10) ?_
        refine jaL0 (p := 50) rfl jM12 jq12_49 ?_
        refine jw_dupA (p := 51) rfl jM12 jq12_50 ?_
        refine jw_getI (p := 54) (i := 9) rfl jM12 jq12_51 rfl (jo_3 hF) jn_1_9 ?_
        refine jiL2 (p := 55) rfl jM12 jq12_54 ?_
        refine jw_iadd (p := 56) rfl jM12 jq12_55 ?_
        refine jw_putI (p := 59) (i := 9) rfl jM12 jq12_56 rfl (jo_3 hF) (Or.inl jz_1_9) ?_
        refine jiL2 (p := 60) rfl jM12 jq12_59 ?_
        exact jw_iret jM12 jq12_60 (fun z => absurd z (by decide)) h4
    · have h3 := h1.2 c3
      refine jaL0 (p := 18) rfl jM12 jq12_17 ?_
      refine jw_getI (p := 21) (i := 10) rfl jM12 jq12_18 rfl (jo_3 hF) jn_1_10 ?_
      refine jw_iconst (p := 22) rfl jM12 jq12_21 ?_
      refine jw_isub (p := 23) rfl jM12 jq12_22 ?_
      refine jiS2 (p := 24) rfl jM12 jq12_23 ?_
      refine jaL0 (p := 25) rfl jM12 jq12_24 ?_
      refine jw_iconst (p := 26) rfl jM12 jq12_25 ?_
      refine jw_putI (p := 29) (i := 10) rfl jM12 jq12_26 rfl (jo_3 hF) (Or.inl jz_1_10) ?_
      refine jw_goto jM12 jq12_29 ?_
      refine jaL0 (p := 50) rfl jM12 jq12_49 ?_
      refine jw_dupA (p := 51) rfl jM12 jq12_50 ?_
      refine jw_getI (p := 54) (i := 9) rfl jM12 jq12_51 rfl (jo_3 hF) jn_1_9 ?_
      refine jiL2 (p := 55) rfl jM12 jq12_54 ?_
      refine jw_iadd (p := 56) rfl jM12 jq12_55 ?_
      refine jw_putI (p := 59) (i := 9) rfl jM12 jq12_56 rfl (jo_3 hF) (Or.inl jz_1_9) ?_
      refine jiL2 (p := 60) rfl jM12 jq12_59 ?_
      exact jw_iret jM12 jq12_60 (fun z => absurd z (by decide)) h3
-- 13 PageLoom$Disk.makeDurable(I)Z
theorem jk13_0 {d : Nat} {σ : ib_H} {Q : ib_O → Prop} {l1 : Int} (hF : jb_F σ) (hl1 : jb_r l1)
    (h : (l1 ≤ jb_i σ 3 8 → jb_w d 12 0 [some (.ref 3), some (jb_v 0), none] [] σ (jb_k (d + 1) 13 21 [some (.ref 3), some (jb_v l1), some (jb_v 0), none] [] Q)) ∧ (¬ (l1 ≤ jb_i σ 3 8) → jb_w d 12 0 [some (.ref 3), some (jb_v (l1 - (jb_i σ 3 8))), none] [] σ (jb_k (d + 1) 13 21 [some (.ref 3), some (jb_v l1), some (jb_v (l1 - (jb_i σ 3 8))), none] [] Q))) :
    jb_w (d + 1) 13 0 [some (.ref 3), some (jb_v l1), none, none] [] σ Q := by
  refine jiL1 (p := 1) rfl jM13 jq13_0 ?_
  refine jaL0 (p := 2) rfl jM13 jq13_1 ?_
  refine jw_getI (p := 5) (i := 8) rfl jM13 jq13_2 rfl (jo_3 hF) jn_1_8 ?_
  refine jw_ic (p := 8) rfl jM13 jq13_5 (jc_le hl1 (jb_r_i _ _ _)) (fun c1 => ?_) (fun c1 => ?_)
  · have h1 := h.1 c1
    refine jw_iconst (p := 18) rfl jM13 jq13_17 ?_
    refine jiS2 (p := 19) rfl jM13 jq13_18 ?_
    refine jaL0 (p := 20) rfl jM13 jq13_19 ?_
    refine jiL2 (p := 21) rfl jM13 jq13_20 ?_
    refine jw_callV [(jb_v 0)] jM13 jq13_21 rfl rfl (jo_3 hF) rfl jM12 rfl rfl ?_
    exact h1
  · have h1 := h.2 c1
    refine jiL1 (p := 9) rfl jM13 jq13_8 ?_
    refine jaL0 (p := 10) rfl jM13 jq13_9 ?_
    refine jw_getI (p := 13) (i := 8) rfl jM13 jq13_10 rfl (jo_3 hF) jn_1_8 ?_
    refine jw_isub (p := 14) rfl jM13 jq13_13 ?_
    refine jw_goto jM13 jq13_14 ?_
    refine jiS2 (p := 19) rfl jM13 jq13_18 ?_
    refine jaL0 (p := 20) rfl jM13 jq13_19 ?_
    refine jiL2 (p := 21) rfl jM13 jq13_20 ?_
    refine jw_callV [(jb_v (l1 - (jb_i σ 3 8)))] jM13 jq13_21 rfl rfl (jo_3 hF) rfl jM12 rfl rfl ?_
    exact h1
theorem jk13_24 {d : Nat} {σ : ib_H} {Q : ib_O → Prop} {l1 : Int} {l2 : Int} {s0 : Int} (hF : jb_F σ) (hl1 : jb_r l1) (hl2 : jb_r l2) (hs0 : jb_r s0)
    (h : (¬ s0 = l2 → Q (.inl (some (jb_v 0)), jb_si σ 3 8 ((jb_i σ 3 8) + s0))) ∧ (¬ (¬ s0 = l2) → Q (.inl (some (jb_v 1)), jb_si σ 3 8 ((jb_i σ 3 8) + s0)))) :
    jb_w d 13 24 [some (.ref 3), some (jb_v l1), some (jb_v l2), none] [(jb_v s0)] σ Q := by
  refine jiS3 (p := 25) rfl jM13 jq13_24 ?_
  refine jaL0 (p := 26) rfl jM13 jq13_25 ?_
  refine jw_dupA (p := 27) rfl jM13 jq13_26 ?_
  refine jw_getI (p := 30) (i := 8) rfl jM13 jq13_27 rfl (jo_3 hF) jn_1_8 ?_
  refine jiL3 (p := 31) rfl jM13 jq13_30 ?_
  refine jw_iadd (p := 32) rfl jM13 jq13_31 ?_
  refine jw_putI (p := 35) (i := 8) rfl jM13 jq13_32 rfl (jo_3 hF) (Or.inl jz_1_8) ?_
  refine jiL3 (p := 36) rfl jM13 jq13_35 ?_
  refine jiL2 (p := 37) rfl jM13 jq13_36 ?_
  refine jw_ic (p := 40) rfl jM13 jq13_37 (jc_ne hs0 hl2) (fun c1 => ?_) (fun c1 => ?_)
  · have h1 := h.1 c1
    refine jw_iconst (p := 45) rfl jM13 jq13_44 ?_
    exact jw_iret jM13 jq13_45 (fun _ => Or.inl rfl) h1
  · have h1 := h.2 c1
    refine jw_iconst (p := 41) rfl jM13 jq13_40 ?_
    refine jw_goto jM13 jq13_41 ?_
    exact jw_iret jM13 jq13_45 (fun _ => Or.inr rfl) h1
-- 14 PageLoom$Disk.writePage(ILPageLoom$Page;)Z
theorem jk14_0 {d : Nat} {σ : ib_H} {Q : ib_O → Prop} {l1 : Int} {l2 : Nat} (hF : jb_F σ) (hl1 : jb_r l1) (hl2 : l2 ≠ 0 → jb_pg σ l2)
    (h : (l1 < 0 → Q (.inl (some (jb_v 1)), σ)) ∧ (¬ (l1 < 0) → (l1 < 24 → (l2 ≠ 0) ∧ ((jb_i σ l2 1 ≤ jb_i σ 3 8 → jb_w d 12 0 [some (.ref 3), some (jb_v ((0 : Int) + 4)), none] [] σ (jb_k (d + 1) 14 41 [some (.ref 3), some (jb_v l1), some (.ref l2), some (jb_v 0), none, none] [] Q)) ∧ (¬ (jb_i σ l2 1 ≤ jb_i σ 3 8) → jb_w d 12 0 [some (.ref 3), some (jb_v (((jb_i σ l2 1) - (jb_i σ 3 8)) + 4)), none] [] σ (jb_k (d + 1) 14 41 [some (.ref 3), some (jb_v l1), some (.ref l2), some (jb_v ((jb_i σ l2 1) - (jb_i σ 3 8))), none, none] [] Q)))) ∧ (¬ (l1 < 24) → Q (.inl (some (jb_v 1)), σ)))) :
    jb_w (d + 1) 14 0 [some (.ref 3), some (jb_v l1), some (.ref l2), none, none, none] [] σ Q := by
  refine jiL1 (p := 1) rfl jM14 jq14_0 ?_
  refine jw_if (p := 4) rfl jM14 jq14_1 (jc_lt hl1 jb_r0) (fun c1 => ?_) (fun c1 => ?_)
  · have h1 := h.1 c1
    refine jw_iconst (p := 11) rfl jM14 jq14_10 ?_
    exact jw_iret jM14 jq14_11 (fun _ => Or.inr rfl) h1
  · have h1 := h.2 c1
    refine jiL1 (p := 5) rfl jM14 jq14_4 ?_
    refine jw_bipush (p := 7) rfl jM14 jq14_5 (by decide) ?_
    refine jw_ic (p := 10) rfl jM14 jq14_7 (jc_lt hl1 (jb_rn rfl)) (fun c2 => ?_) (fun c2 => ?_)
    · have h2 := h1.1 c2
      refine jaL2 (p := 13) rfl jM14 jq14_12 ?_
      obtain ⟨c3, h3⟩ := h2
      refine jw_getI (p := 16) (i := 1) rfl jM14 jq14_13 rfl (hl2 c3).ob jn_4_1 ?_
      refine jaL0 (p := 17) rfl jM14 jq14_16 ?_
      refine jw_getI (p := 20) (i := 8) rfl jM14 jq14_17 rfl (jo_3 hF) jn_1_8 ?_
      refine jw_ic (p := 23) rfl jM14 jq14_20 (jc_le (jb_r_i _ _ _) (jb_r_i _ _ _)) (fun c4 => ?_) (fun c4 => ?_)
      · have h4 := h3.1 c4
        refine jw_iconst (p := 36) rfl jM14 jq14_35 ?_
        refine jiS3 (p := 37) rfl jM14 jq14_36 ?_
        refine jaL0 (p := 38) rfl jM14 jq14_37 ?_
        refine jiL3 (p := 39) rfl jM14 jq14_38 ?_
        refine jw_iconst (p := 40) rfl jM14 jq14_39 ?_
        refine jw_iadd (p := 41) rfl jM14 jq14_40 ?_
        refine jw_callV [(jb_v ((0 : Int) + 4))] jM14 jq14_41 rfl rfl (jo_3 hF) rfl jM12 rfl rfl ?_
        exact h4
      · have h4 := h3.2 c4
        refine jaL2 (p := 24) rfl jM14 jq14_23 ?_
        refine jw_getI (p := 27) (i := 1) rfl jM14 jq14_24 rfl (hl2 c3).ob jn_4_1 ?_
        refine jaL0 (p := 28) rfl jM14 jq14_27 ?_
        refine jw_getI (p := 31) (i := 8) rfl jM14 jq14_28 rfl (jo_3 hF) jn_1_8 ?_
        refine jw_isub (p := 32) rfl jM14 jq14_31 ?_
        refine jw_goto jM14 jq14_32 ?_
        refine jiS3 (p := 37) rfl jM14 jq14_36 ?_
        refine jaL0 (p := 38) rfl jM14 jq14_37 ?_
        refine jiL3 (p := 39) rfl jM14 jq14_38 ?_
        refine jw_iconst (p := 40) rfl jM14 jq14_39 ?_
        refine jw_iadd (p := 41) rfl jM14 jq14_40 ?_
        refine jw_callV [(jb_v (((jb_i σ l2 1) - (jb_i σ 3 8)) + 4))] jM14 jq14_41 rfl rfl (jo_3 hF) rfl jM12 rfl rfl ?_
        exact h4
    · have h2 := h1.2 c2
      refine jw_iconst (p := 11) rfl jM14 jq14_10 ?_
      exact jw_iret jM14 jq14_11 (fun _ => Or.inr rfl) h2
theorem jk14_44 {d : Nat} {σ : ib_H} {Q : ib_O → Prop} {l1 : Int} {l2 : Nat} {l3 : Int} {s0 : Int} (hF : jb_F σ) (hl1 : jb_r l1) (hl2 : l2 ≠ 0 → jb_pg σ l2) (hl3 : jb_r l3) (hs0 : jb_r s0)
    (h : (l3 ≤ s0 → (jb_r (s0 - l3)) ∧ ((s0 - l3 ≤ 0 → (s0 - l3 ≤ 1 → (s0 - l3 ≤ 2 → (s0 - l3 ≤ 3 → (¬ s0 - l3 = 4 → Q (.inl (some (jb_v 0)), jb_si (jb_si σ 3 8 ((jb_i σ 3 8) + l3)) 3 7 ((jb_i (jb_si σ 3 8 ((jb_i σ 3 8) + l3)) 3 7) + 1))) ∧ (¬ (¬ s0 - l3 = 4) → Q (.inl (some (jb_v 1)), jb_si (jb_si σ 3 8 ((jb_i σ 3 8) + l3)) 3 7 ((jb_i (jb_si σ 3 8 ((jb_i σ 3 8) + l3)) 3 7) + 1)))) ∧ (¬ (s0 - l3 ≤ 3) → (0 ≤ l1 ∧ l1 < 24) ∧ (jb_w d 35 0 [some (.ref (9 + 2 * Int.toNat l1)), some (.ref l2), none] [] (jb_si (jb_si (jb_si σ 3 8 ((jb_i σ 3 8) + l3)) 3 7 ((jb_i (jb_si σ 3 8 ((jb_i σ 3 8) + l3)) 3 7) + 1)) 6 l1 (jb_i (jb_si (jb_si σ 3 8 ((jb_i σ 3 8) + l3)) 3 7 ((jb_i (jb_si σ 3 8 ((jb_i σ 3 8) + l3)) 3 7) + 1)) 3 7)) (jb_k (d + 1) 14 170 [some (.ref 3), some (jb_v l1), some (.ref l2), some (jb_v l3), some (jb_v s0), some (jb_v (s0 - l3))] [] Q)))) ∧ (¬ (s0 - l3 ≤ 2) → (0 ≤ l1 ∧ l1 < 24) ∧ ((s0 - l3 ≤ 3 → (¬ s0 - l3 = 4 → Q (.inl (some (jb_v 0)), jb_si (jb_si (jb_si σ 3 8 ((jb_i σ 3 8) + l3)) 3 7 ((jb_i (jb_si σ 3 8 ((jb_i σ 3 8) + l3)) 3 7) + 1)) 5 l1 (jb_i (jb_si (jb_si σ 3 8 ((jb_i σ 3 8) + l3)) 3 7 ((jb_i (jb_si σ 3 8 ((jb_i σ 3 8) + l3)) 3 7) + 1)) 3 7))) ∧ (¬ (¬ s0 - l3 = 4) → Q (.inl (some (jb_v 1)), jb_si (jb_si (jb_si σ 3 8 ((jb_i σ 3 8) + l3)) 3 7 ((jb_i (jb_si σ 3 8 ((jb_i σ 3 8) + l3)) 3 7) + 1)) 5 l1 (jb_i (jb_si (jb_si σ 3 8 ((jb_i σ 3 8) + l3)) 3 7 ((jb_i (jb_si σ 3 8 ((jb_i σ 3 8) + l3)) 3 7) + 1)) 3 7)))) ∧ (¬ (s0 - l3 ≤ 3) → jb_w d 35 0 [some (.ref (9 + 2 * Int.toNat l1)), some (.ref l2), none] [] (jb_si (jb_si (jb_si (jb_si σ 3 8 ((jb_i σ 3 8) + l3)) 3 7 ((jb_i (jb_si σ 3 8 ((jb_i σ 3 8) + l3)) 3 7) + 1)) 5 l1 (jb_i (jb_si (jb_si σ 3 8 ((jb_i σ 3 8) + l3)) 3 7 ((jb_i (jb_si σ 3 8 ((jb_i σ 3 8) + l3)) 3 7) + 1)) 3 7)) 6 l1 (jb_i (jb_si (jb_si (jb_si σ 3 8 ((jb_i σ 3 8) + l3)) 3 7 ((jb_i (jb_si σ 3 8 ((jb_i σ 3 8) + l3)) 3 7) + 1)) 5 l1 (jb_i (jb_si (jb_si σ 3 8 ((jb_i σ 3 8) + l3)) 3 7 ((jb_i (jb_si σ 3 8 ((jb_i σ 3 8) + l3)) 3 7) + 1)) 3 7)) 3 7)) (jb_k (d + 1) 14 170 [some (.ref 3), some (jb_v l1), some (.ref l2), some (jb_v l3), some (jb_v s0), some (jb_v (s0 - l3))] [] Q))))) ∧ (¬ (s0 - l3 ≤ 1) → jb_w d 35 0 [some (.ref 7), some (.ref l2), none] [] (jb_si (jb_si (jb_si σ 3 8 ((jb_i σ 3 8) + l3)) 3 7 ((jb_i (jb_si σ 3 8 ((jb_i σ 3 8) + l3)) 3 7) + 1)) 3 6 (jb_i (jb_si (jb_si σ 3 8 ((jb_i σ 3 8) + l3)) 3 7 ((jb_i (jb_si σ 3 8 ((jb_i σ 3 8) + l3)) 3 7) + 1)) 3 7)) (jb_k (d + 1) 14 128 [some (.ref 3), some (jb_v l1), some (.ref l2), some (jb_v l3), some (jb_v s0), some (jb_v (s0 - l3))] [] Q))) ∧ (¬ (s0 - l3 ≤ 0) → (s0 - l3 ≤ 1 → (s0 - l3 ≤ 2 → (s0 - l3 ≤ 3 → (¬ s0 - l3 = 4 → Q (.inl (some (jb_v 0)), jb_si (jb_si (jb_si (jb_si σ 3 8 ((jb_i σ 3 8) + l3)) 3 7 ((jb_i (jb_si σ 3 8 ((jb_i σ 3 8) + l3)) 3 7) + 1)) 3 4 l1) 3 5 (jb_i (jb_si (jb_si (jb_si σ 3 8 ((jb_i σ 3 8) + l3)) 3 7 ((jb_i (jb_si σ 3 8 ((jb_i σ 3 8) + l3)) 3 7) + 1)) 3 4 l1) 3 7))) ∧ (¬ (¬ s0 - l3 = 4) → Q (.inl (some (jb_v 1)), jb_si (jb_si (jb_si (jb_si σ 3 8 ((jb_i σ 3 8) + l3)) 3 7 ((jb_i (jb_si σ 3 8 ((jb_i σ 3 8) + l3)) 3 7) + 1)) 3 4 l1) 3 5 (jb_i (jb_si (jb_si (jb_si σ 3 8 ((jb_i σ 3 8) + l3)) 3 7 ((jb_i (jb_si σ 3 8 ((jb_i σ 3 8) + l3)) 3 7) + 1)) 3 4 l1) 3 7)))) ∧ (¬ (s0 - l3 ≤ 3) → (0 ≤ l1 ∧ l1 < 24) ∧ (jb_w d 35 0 [some (.ref (9 + 2 * Int.toNat l1)), some (.ref l2), none] [] (jb_si (jb_si (jb_si (jb_si (jb_si σ 3 8 ((jb_i σ 3 8) + l3)) 3 7 ((jb_i (jb_si σ 3 8 ((jb_i σ 3 8) + l3)) 3 7) + 1)) 3 4 l1) 3 5 (jb_i (jb_si (jb_si (jb_si σ 3 8 ((jb_i σ 3 8) + l3)) 3 7 ((jb_i (jb_si σ 3 8 ((jb_i σ 3 8) + l3)) 3 7) + 1)) 3 4 l1) 3 7)) 6 l1 (jb_i (jb_si (jb_si (jb_si (jb_si σ 3 8 ((jb_i σ 3 8) + l3)) 3 7 ((jb_i (jb_si σ 3 8 ((jb_i σ 3 8) + l3)) 3 7) + 1)) 3 4 l1) 3 5 (jb_i (jb_si (jb_si (jb_si σ 3 8 ((jb_i σ 3 8) + l3)) 3 7 ((jb_i (jb_si σ 3 8 ((jb_i σ 3 8) + l3)) 3 7) + 1)) 3 4 l1) 3 7)) 3 7)) (jb_k (d + 1) 14 170 [some (.ref 3), some (jb_v l1), some (.ref l2), some (jb_v l3), some (jb_v s0), some (jb_v (s0 - l3))] [] Q)))) ∧ (¬ (s0 - l3 ≤ 2) → (0 ≤ l1 ∧ l1 < 24) ∧ ((s0 - l3 ≤ 3 → (¬ s0 - l3 = 4 → Q (.inl (some (jb_v 0)), jb_si (jb_si (jb_si (jb_si (jb_si σ 3 8 ((jb_i σ 3 8) + l3)) 3 7 ((jb_i (jb_si σ 3 8 ((jb_i σ 3 8) + l3)) 3 7) + 1)) 3 4 l1) 3 5 (jb_i (jb_si (jb_si (jb_si σ 3 8 ((jb_i σ 3 8) + l3)) 3 7 ((jb_i (jb_si σ 3 8 ((jb_i σ 3 8) + l3)) 3 7) + 1)) 3 4 l1) 3 7)) 5 l1 (jb_i (jb_si (jb_si (jb_si (jb_si σ 3 8 ((jb_i σ 3 8) + l3)) 3 7 ((jb_i (jb_si σ 3 8 ((jb_i σ 3 8) + l3)) 3 7) + 1)) 3 4 l1) 3 5 (jb_i (jb_si (jb_si (jb_si σ 3 8 ((jb_i σ 3 8) + l3)) 3 7 ((jb_i (jb_si σ 3 8 ((jb_i σ 3 8) + l3)) 3 7) + 1)) 3 4 l1) 3 7)) 3 7))) ∧ (¬ (¬ s0 - l3 = 4) → Q (.inl (some (jb_v 1)), jb_si (jb_si (jb_si (jb_si (jb_si σ 3 8 ((jb_i σ 3 8) + l3)) 3 7 ((jb_i (jb_si σ 3 8 ((jb_i σ 3 8) + l3)) 3 7) + 1)) 3 4 l1) 3 5 (jb_i (jb_si (jb_si (jb_si σ 3 8 ((jb_i σ 3 8) + l3)) 3 7 ((jb_i (jb_si σ 3 8 ((jb_i σ 3 8) + l3)) 3 7) + 1)) 3 4 l1) 3 7)) 5 l1 (jb_i (jb_si (jb_si (jb_si (jb_si σ 3 8 ((jb_i σ 3 8) + l3)) 3 7 ((jb_i (jb_si σ 3 8 ((jb_i σ 3 8) + l3)) 3 7) + 1)) 3 4 l1) 3 5 (jb_i (jb_si (jb_si (jb_si σ 3 8 ((jb_i σ 3 8) + l3)) 3 7 ((jb_i (jb_si σ 3 8 ((jb_i σ 3 8) + l3)) 3 7) + 1)) 3 4 l1) 3 7)) 3 7)))) ∧ (¬ (s0 - l3 ≤ 3) → jb_w d 35 0 [some (.ref (9 + 2 * Int.toNat l1)), some (.ref l2), none] [] (jb_si (jb_si (jb_si (jb_si (jb_si (jb_si σ 3 8 ((jb_i σ 3 8) + l3)) 3 7 ((jb_i (jb_si σ 3 8 ((jb_i σ 3 8) + l3)) 3 7) + 1)) 3 4 l1) 3 5 (jb_i (jb_si (jb_si (jb_si σ 3 8 ((jb_i σ 3 8) + l3)) 3 7 ((jb_i (jb_si σ 3 8 ((jb_i σ 3 8) + l3)) 3 7) + 1)) 3 4 l1) 3 7)) 5 l1 (jb_i (jb_si (jb_si (jb_si (jb_si σ 3 8 ((jb_i σ 3 8) + l3)) 3 7 ((jb_i (jb_si σ 3 8 ((jb_i σ 3 8) + l3)) 3 7) + 1)) 3 4 l1) 3 5 (jb_i (jb_si (jb_si (jb_si σ 3 8 ((jb_i σ 3 8) + l3)) 3 7 ((jb_i (jb_si σ 3 8 ((jb_i σ 3 8) + l3)) 3 7) + 1)) 3 4 l1) 3 7)) 3 7)) 6 l1 (jb_i (jb_si (jb_si (jb_si (jb_si (jb_si σ 3 8 ((jb_i σ 3 8) + l3)) 3 7 ((jb_i (jb_si σ 3 8 ((jb_i σ 3 8) + l3)) 3 7) + 1)) 3 4 l1) 3 5 (jb_i (jb_si (jb_si (jb_si σ 3 8 ((jb_i σ 3 8) + l3)) 3 7 ((jb_i (jb_si σ 3 8 ((jb_i σ 3 8) + l3)) 3 7) + 1)) 3 4 l1) 3 7)) 5 l1 (jb_i (jb_si (jb_si (jb_si (jb_si σ 3 8 ((jb_i σ 3 8) + l3)) 3 7 ((jb_i (jb_si σ 3 8 ((jb_i σ 3 8) + l3)) 3 7) + 1)) 3 4 l1) 3 5 (jb_i (jb_si (jb_si (jb_si σ 3 8 ((jb_i σ 3 8) + l3)) 3 7 ((jb_i (jb_si σ 3 8 ((jb_i σ 3 8) + l3)) 3 7) + 1)) 3 4 l1) 3 7)) 3 7)) 3 7)) (jb_k (d + 1) 14 170 [some (.ref 3), some (jb_v l1), some (.ref l2), some (jb_v l3), some (jb_v s0), some (jb_v (s0 - l3))] [] Q))))) ∧ (¬ (s0 - l3 ≤ 1) → jb_w d 35 0 [some (.ref 7), some (.ref l2), none] [] (jb_si (jb_si (jb_si (jb_si (jb_si σ 3 8 ((jb_i σ 3 8) + l3)) 3 7 ((jb_i (jb_si σ 3 8 ((jb_i σ 3 8) + l3)) 3 7) + 1)) 3 4 l1) 3 5 (jb_i (jb_si (jb_si (jb_si σ 3 8 ((jb_i σ 3 8) + l3)) 3 7 ((jb_i (jb_si σ 3 8 ((jb_i σ 3 8) + l3)) 3 7) + 1)) 3 4 l1) 3 7)) 3 6 (jb_i (jb_si (jb_si (jb_si (jb_si σ 3 8 ((jb_i σ 3 8) + l3)) 3 7 ((jb_i (jb_si σ 3 8 ((jb_i σ 3 8) + l3)) 3 7) + 1)) 3 4 l1) 3 5 (jb_i (jb_si (jb_si (jb_si σ 3 8 ((jb_i σ 3 8) + l3)) 3 7 ((jb_i (jb_si σ 3 8 ((jb_i σ 3 8) + l3)) 3 7) + 1)) 3 4 l1) 3 7)) 3 7)) (jb_k (d + 1) 14 128 [some (.ref 3), some (jb_v l1), some (.ref l2), some (jb_v l3), some (jb_v s0), some (jb_v (s0 - l3))] [] Q))))) ∧ (¬ (l3 ≤ s0) → Q (.inl (some (jb_v 0)), jb_si σ 3 8 ((jb_i σ 3 8) + s0)))) :
    jb_w (d + 1) 14 44 [some (.ref 3), some (jb_v l1), some (.ref l2), some (jb_v l3), none, none] [(jb_v s0)] σ Q := by
  refine jiS4 (p := 46) rfl jM14 jq14_44 ?_
  refine jiL4 (p := 48) rfl jM14 jq14_46 ?_
  refine jiL3 (p := 49) rfl jM14 jq14_48 ?_
  refine jw_ic (p := 52) rfl jM14 jq14_49 (jc_ge hs0 hl3) (fun c1 => ?_) (fun c1 => ?_)
  · have h1 := h.1 c1
    refine jaL0 (p := 66) rfl jM14 jq14_65 ?_
    refine jw_dupA (p := 67) rfl jM14 jq14_66 ?_
    refine jw_getI (p := 70) (i := 8) rfl jM14 jq14_67 rfl (jo_3 hF) jn_1_8 ?_
    refine jiL3 (p := 71) rfl jM14 jq14_70 ?_
    refine jw_iadd (p := 72) rfl jM14 jq14_71 ?_
    refine jw_putI (p := 75) (i := 8) rfl jM14 jq14_72 rfl (jo_3 hF) (Or.inl jz_1_8) ?_
    refine jiL4 (p := 77) rfl jM14 jq14_75 ?_
    refine jiL3 (p := 78) rfl jM14 jq14_77 ?_
    refine jw_isub (p := 79) rfl jM14 jq14_78 ?_
    refine jiS5 (p := 81) rfl jM14 jq14_79 ?_
    refine jaL0 (p := 82) rfl jM14 jq14_81 ?_
    refine jw_dupA (p := 83) rfl jM14 jq14_82 ?_
    refine jw_getI (p := 86) (i := 7) rfl jM14 jq14_83 rfl (jo_3 hF) jn_1_7 ?_
    refine jw_iconst (p := 87) rfl jM14 jq14_86 ?_
    refine jw_iadd (p := 88) rfl jM14 jq14_87 ?_
    refine jw_putI (p := 91) (i := 7) rfl jM14 jq14_88 rfl (jo_3 hF) (Or.inl jz_1_7) ?_
    refine jiL5 (p := 93) rfl jM14 jq14_91 ?_
    obtain ⟨c2, h2⟩ := h1
    refine jw_if (p := 96) rfl jM14 jq14_93 (jc_le c2 jb_r0) (fun c3 => ?_) (fun c3 => ?_)
    · have h3 := h2.1 c3
      refine jiL5 (p := 111) rfl jM14 jq14_109 ?_
      refine jw_iconst (p := 112) rfl jM14 jq14_111 ?_
      refine jw_ic (p := 115) rfl jM14 jq14_112 (jc_le c2 (jb_rn rfl)) (fun c4 => ?_) (fun c4 => ?_)
      · have h4 := h3.1 c4
        refine jiL5 (p := 133) rfl jM14 jq14_131 ?_
        refine jw_iconst (p := 134) rfl jM14 jq14_133 ?_
        refine jw_ic (p := 137) rfl jM14 jq14_134 (jc_le c2 (jb_rn rfl)) (fun c5 => ?_) (fun c5 => ?_)
        · have h5 := h4.1 c5
          refine jiL5 (p := 149) rfl jM14 jq14_147 ?_
          refine jw_iconst (p := 150) rfl jM14 jq14_149 ?_
          refine jw_ic (p := 153) rfl jM14 jq14_150 (jc_le c2 (jb_rn rfl)) (fun c6 => ?_) (fun c6 => ?_)
          · have h6 := h5.1 c6
            refine jiL5 (p := 175) rfl jM14 jq14_173 ?_
            refine jw_iconst (p := 176) rfl jM14 jq14_175 ?_
            refine jw_ic (p := 179) rfl jM14 jq14_176 (jc_ne c2 (jb_rn rfl)) (fun c7 => ?_) (fun c7 => ?_)
            · have h7 := h6.1 c7
              refine jw_iconst (p := 184) rfl jM14 jq14_183 ?_
              exact jw_iret jM14 jq14_184 (fun _ => Or.inl rfl) h7
            · have h7 := h6.2 c7
              refine jw_iconst (p := 180) rfl jM14 jq14_179 ?_
              refine jw_goto jM14 jq14_180 ?_
              exact jw_iret jM14 jq14_184 (fun _ => Or.inr rfl) h7
          · have h6 := h5.2 c6
            refine jaL0 (p := 154) rfl jM14 jq14_153 ?_
            refine jw_getP (p := 157) (i := 2) (q := 6) rfl jM14 jq14_154 rfl (jo_3 hF) je_1_2 (jp_3_2 hF) ?_
            refine jiL1 (p := 158) rfl jM14 jq14_157 ?_
            refine jaL0 (p := 159) rfl jM14 jq14_158 ?_
            refine jw_getI (p := 162) (i := 7) rfl jM14 jq14_159 rfl (jo_3 hF) jn_1_7 ?_
            obtain ⟨c8, h8⟩ := h6
            refine jw_iast (p := 163) rfl jM14 jq14_162 (ja_6 hF) c8.1 c8.2 ?_
            refine jaL0 (p := 164) rfl jM14 jq14_163 ?_
            refine jw_getP (p := 167) (i := 0) (q := 4) rfl jM14 jq14_164 rfl (jo_3 hF) je_1_0 (jp_3_0 hF) ?_
            refine jiL1 (p := 168) rfl jM14 jq14_167 ?_
            refine jw_aald (p := 169) rfl jM14 jq14_168 (ja_4 hF) (Or.inl rfl) c8.1 c8.2 (jb_Fqd hF c8.1 c8.2) ?_
            refine jaL2 (p := 170) rfl jM14 jq14_169 ?_
            refine jw_callV [(.ref l2)] jM14 jq14_170 rfl rfl (jb_Fpgd hF c8.1 c8.2).ob rfl jM35 rfl rfl ?_
            exact h8
        · have h5 := h4.2 c5
          refine jaL0 (p := 138) rfl jM14 jq14_137 ?_
          refine jw_getP (p := 141) (i := 1) (q := 5) rfl jM14 jq14_138 rfl (jo_3 hF) je_1_1 (jp_3_1 hF) ?_
          refine jiL1 (p := 142) rfl jM14 jq14_141 ?_
          refine jaL0 (p := 143) rfl jM14 jq14_142 ?_
          refine jw_getI (p := 146) (i := 7) rfl jM14 jq14_143 rfl (jo_3 hF) jn_1_7 ?_
          obtain ⟨c9, h9⟩ := h5
          refine jw_iast (p := 147) rfl jM14 jq14_146 (ja_5 hF) c9.1 c9.2 ?_
          refine jiL5 (p := 149) rfl jM14 jq14_147 ?_
          refine jw_iconst (p := 150) rfl jM14 jq14_149 ?_
          refine jw_ic (p := 153) rfl jM14 jq14_150 (jc_le c2 (jb_rn rfl)) (fun c10 => ?_) (fun c10 => ?_)
          · have h10 := h9.1 c10
            refine jiL5 (p := 175) rfl jM14 jq14_173 ?_
            refine jw_iconst (p := 176) rfl jM14 jq14_175 ?_
            refine jw_ic (p := 179) rfl jM14 jq14_176 (jc_ne c2 (jb_rn rfl)) (fun c11 => ?_) (fun c11 => ?_)
            · have h11 := h10.1 c11
              refine jw_iconst (p := 184) rfl jM14 jq14_183 ?_
              exact jw_iret jM14 jq14_184 (fun _ => Or.inl rfl) h11
            · have h11 := h10.2 c11
              refine jw_iconst (p := 180) rfl jM14 jq14_179 ?_
              refine jw_goto jM14 jq14_180 ?_
              exact jw_iret jM14 jq14_184 (fun _ => Or.inr rfl) h11
          · have h10 := h9.2 c10
            refine jaL0 (p := 154) rfl jM14 jq14_153 ?_
            refine jw_getP (p := 157) (i := 2) (q := 6) rfl jM14 jq14_154 rfl (jo_3 hF) je_1_2 (jp_3_2 hF) ?_
            refine jiL1 (p := 158) rfl jM14 jq14_157 ?_
            refine jaL0 (p := 159) rfl jM14 jq14_158 ?_
            refine jw_getI (p := 162) (i := 7) rfl jM14 jq14_159 rfl (jo_3 hF) jn_1_7 ?_
            refine jw_iast (p := 163) rfl jM14 jq14_162 (ja_6 hF) c9.1 c9.2 ?_
            refine jaL0 (p := 164) rfl jM14 jq14_163 ?_
            refine jw_getP (p := 167) (i := 0) (q := 4) rfl jM14 jq14_164 rfl (jo_3 hF) je_1_0 (jp_3_0 hF) ?_
            refine jiL1 (p := 168) rfl jM14 jq14_167 ?_
            refine jw_aald (p := 169) rfl jM14 jq14_168 (ja_4 hF) (Or.inl rfl) c9.1 c9.2 (jb_Fqd hF c9.1 c9.2) ?_
            refine jaL2 (p := 170) rfl jM14 jq14_169 ?_
            refine jw_callV [(.ref l2)] jM14 jq14_170 rfl rfl (jb_Fpgd hF c9.1 c9.2).ob rfl jM35 rfl rfl ?_
            exact h10
      · have h4 := h3.2 c4
        refine jaL0 (p := 116) rfl jM14 jq14_115 ?_
        refine jaL0 (p := 117) rfl jM14 jq14_116 ?_
        refine jw_getI (p := 120) (i := 7) rfl jM14 jq14_117 rfl (jo_3 hF) jn_1_7 ?_
        refine jw_putI (p := 123) (i := 6) rfl jM14 jq14_120 rfl (jo_3 hF) (Or.inl jz_1_6) ?_
        refine jaL0 (p := 124) rfl jM14 jq14_123 ?_
        refine jw_getP (p := 127) (i := 3) (q := 7) rfl jM14 jq14_124 rfl (jo_3 hF) je_1_3 (jp_3_3 hF) ?_
        refine jaL2 (p := 128) rfl jM14 jq14_127 ?_
        refine jw_callV [(.ref l2)] jM14 jq14_128 rfl rfl (jo_7 hF) rfl jM35 rfl rfl ?_
        exact h4
    · have h3 := h2.2 c3
      refine jaL0 (p := 97) rfl jM14 jq14_96 ?_
      refine jiL1 (p := 98) rfl jM14 jq14_97 ?_
      refine jw_putI (p := 101) (i := 4) rfl jM14 jq14_98 rfl (jo_3 hF) (Or.inl jz_1_4) ?_
      refine jaL0 (p := 102) rfl jM14 jq14_101 ?_
      refine jaL0 (p := 103) rfl jM14 jq14_102 ?_
      refine jw_getI (p := 106) (i := 7) rfl jM14 jq14_103 rfl (jo_3 hF) jn_1_7 ?_
      refine jw_putI (p := 109) (i := 5) rfl jM14 jq14_106 rfl (jo_3 hF) (Or.inl jz_1_5) ?_
      refine jiL5 (p := 111) rfl jM14 jq14_109 ?_
      refine jw_iconst (p := 112) rfl jM14 jq14_111 ?_
      refine jw_ic (p := 115) rfl jM14 jq14_112 (jc_le c2 (jb_rn rfl)) (fun c12 => ?_) (fun c12 => ?_)
      · have h12 := h3.1 c12
        refine jiL5 (p := 133) rfl jM14 jq14_131 ?_
        refine jw_iconst (p := 134) rfl jM14 jq14_133 ?_
        refine jw_ic (p := 137) rfl jM14 jq14_134 (jc_le c2 (jb_rn rfl)) (fun c13 => ?_) (fun c13 => ?_)
        · have h13 := h12.1 c13
          refine jiL5 (p := 149) rfl jM14 jq14_147 ?_
          refine jw_iconst (p := 150) rfl jM14 jq14_149 ?_
          refine jw_ic (p := 153) rfl jM14 jq14_150 (jc_le c2 (jb_rn rfl)) (fun c14 => ?_) (fun c14 => ?_)
          · have h14 := h13.1 c14
            refine jiL5 (p := 175) rfl jM14 jq14_173 ?_
            refine jw_iconst (p := 176) rfl jM14 jq14_175 ?_
            refine jw_ic (p := 179) rfl jM14 jq14_176 (jc_ne c2 (jb_rn rfl)) (fun c15 => ?_) (fun c15 => ?_)
            · have h15 := h14.1 c15
              refine jw_iconst (p := 184) rfl jM14 jq14_183 ?_
              exact jw_iret jM14 jq14_184 (fun _ => Or.inl rfl) h15
            · have h15 := h14.2 c15
              refine jw_iconst (p := 180) rfl jM14 jq14_179 ?_
              refine jw_goto jM14 jq14_180 ?_
              exact jw_iret jM14 jq14_184 (fun _ => Or.inr rfl) h15
          · have h14 := h13.2 c14
            refine jaL0 (p := 154) rfl jM14 jq14_153 ?_
            refine jw_getP (p := 157) (i := 2) (q := 6) rfl jM14 jq14_154 rfl (jo_3 hF) je_1_2 (jp_3_2 hF) ?_
            refine jiL1 (p := 158) rfl jM14 jq14_157 ?_
            refine jaL0 (p := 159) rfl jM14 jq14_158 ?_
            refine jw_getI (p := 162) (i := 7) rfl jM14 jq14_159 rfl (jo_3 hF) jn_1_7 ?_
            obtain ⟨c16, h16⟩ := h14
            refine jw_iast (p := 163) rfl jM14 jq14_162 (ja_6 hF) c16.1 c16.2 ?_
            refine jaL0 (p := 164) rfl jM14 jq14_163 ?_
            refine jw_getP (p := 167) (i := 0) (q := 4) rfl jM14 jq14_164 rfl (jo_3 hF) je_1_0 (jp_3_0 hF) ?_
            refine jiL1 (p := 168) rfl jM14 jq14_167 ?_
            refine jw_aald (p := 169) rfl jM14 jq14_168 (ja_4 hF) (Or.inl rfl) c16.1 c16.2 (jb_Fqd hF c16.1 c16.2) ?_
            refine jaL2 (p := 170) rfl jM14 jq14_169 ?_
            refine jw_callV [(.ref l2)] jM14 jq14_170 rfl rfl (jb_Fpgd hF c16.1 c16.2).ob rfl jM35 rfl rfl ?_
            exact h16
        · have h13 := h12.2 c13
          refine jaL0 (p := 138) rfl jM14 jq14_137 ?_
          refine jw_getP (p := 141) (i := 1) (q := 5) rfl jM14 jq14_138 rfl (jo_3 hF) je_1_1 (jp_3_1 hF) ?_
          refine jiL1 (p := 142) rfl jM14 jq14_141 ?_
          refine jaL0 (p := 143) rfl jM14 jq14_142 ?_
          refine jw_getI (p := 146) (i := 7) rfl jM14 jq14_143 rfl (jo_3 hF) jn_1_7 ?_
          obtain ⟨c17, h17⟩ := h13
          refine jw_iast (p := 147) rfl jM14 jq14_146 (ja_5 hF) c17.1 c17.2 ?_
          refine jiL5 (p := 149) rfl jM14 jq14_147 ?_
          refine jw_iconst (p := 150) rfl jM14 jq14_149 ?_
          refine jw_ic (p := 153) rfl jM14 jq14_150 (jc_le c2 (jb_rn rfl)) (fun c18 => ?_) (fun c18 => ?_)
          · have h18 := h17.1 c18
            refine jiL5 (p := 175) rfl jM14 jq14_173 ?_
            refine jw_iconst (p := 176) rfl jM14 jq14_175 ?_
            refine jw_ic (p := 179) rfl jM14 jq14_176 (jc_ne c2 (jb_rn rfl)) (fun c19 => ?_) (fun c19 => ?_)
            · have h19 := h18.1 c19
              refine jw_iconst (p := 184) rfl jM14 jq14_183 ?_
              exact jw_iret jM14 jq14_184 (fun _ => Or.inl rfl) h19
            · have h19 := h18.2 c19
              refine jw_iconst (p := 180) rfl jM14 jq14_179 ?_
              refine jw_goto jM14 jq14_180 ?_
              exact jw_iret jM14 jq14_184 (fun _ => Or.inr rfl) h19
          · have h18 := h17.2 c18
            refine jaL0 (p := 154) rfl jM14 jq14_153 ?_
            refine jw_getP (p := 157) (i := 2) (q := 6) rfl jM14 jq14_154 rfl (jo_3 hF) je_1_2 (jp_3_2 hF) ?_
            refine jiL1 (p := 158) rfl jM14 jq14_157 ?_
            refine jaL0 (p := 159) rfl jM14 jq14_158 ?_
            refine jw_getI (p := 162) (i := 7) rfl jM14 jq14_159 rfl (jo_3 hF) jn_1_7 ?_
            refine jw_iast (p := 163) rfl jM14 jq14_162 (ja_6 hF) c17.1 c17.2 ?_
            refine jaL0 (p := 164) rfl jM14 jq14_163 ?_
            refine jw_getP (p := 167) (i := 0) (q := 4) rfl jM14 jq14_164 rfl (jo_3 hF) je_1_0 (jp_3_0 hF) ?_
            refine jiL1 (p := 168) rfl jM14 jq14_167 ?_
            refine jw_aald (p := 169) rfl jM14 jq14_168 (ja_4 hF) (Or.inl rfl) c17.1 c17.2 (jb_Fqd hF c17.1 c17.2) ?_
            refine jaL2 (p := 170) rfl jM14 jq14_169 ?_
            refine jw_callV [(.ref l2)] jM14 jq14_170 rfl rfl (jb_Fpgd hF c17.1 c17.2).ob rfl jM35 rfl rfl ?_
            exact h18
      · have h12 := h3.2 c12
        refine jaL0 (p := 116) rfl jM14 jq14_115 ?_
        refine jaL0 (p := 117) rfl jM14 jq14_116 ?_
        refine jw_getI (p := 120) (i := 7) rfl jM14 jq14_117 rfl (jo_3 hF) jn_1_7 ?_
        refine jw_putI (p := 123) (i := 6) rfl jM14 jq14_120 rfl (jo_3 hF) (Or.inl jz_1_6) ?_
        refine jaL0 (p := 124) rfl jM14 jq14_123 ?_
        refine jw_getP (p := 127) (i := 3) (q := 7) rfl jM14 jq14_124 rfl (jo_3 hF) je_1_3 (jp_3_3 hF) ?_
        refine jaL2 (p := 128) rfl jM14 jq14_127 ?_
        refine jw_callV [(.ref l2)] jM14 jq14_128 rfl rfl (jo_7 hF) rfl jM35 rfl rfl ?_
        exact h12
  · have h1 := h.2 c1
    refine jaL0 (p := 53) rfl jM14 jq14_52 ?_
    refine jw_dupA (p := 54) rfl jM14 jq14_53 ?_
    refine jw_getI (p := 57) (i := 8) rfl jM14 jq14_54 rfl (jo_3 hF) jn_1_8 ?_
    refine jiL4 (p := 59) rfl jM14 jq14_57 ?_
    refine jw_iadd (p := 60) rfl jM14 jq14_59 ?_
    refine jw_putI (p := 63) (i := 8) rfl jM14 jq14_60 rfl (jo_3 hF) (Or.inl jz_1_8) ?_
    refine jw_iconst (p := 64) rfl jM14 jq14_63 ?_
    exact jw_iret jM14 jq14_64 (fun _ => Or.inl rfl) h1
theorem jk14_173 {d : Nat} {σ : ib_H} {Q : ib_O → Prop} {l1 : Int} {l2 : Nat} {l3 : Int} {l4 : Int} {l5 : Int} (hF : jb_F σ) (hl1 : jb_r l1) (hl2 : l2 ≠ 0 → jb_pg σ l2) (hl3 : jb_r l3) (hl4 : jb_r l4) (hl5 : jb_r l5)
    (h : (¬ l5 = 4 → Q (.inl (some (jb_v 0)), σ)) ∧ (¬ (¬ l5 = 4) → Q (.inl (some (jb_v 1)), σ))) :
    jb_w d 14 173 [some (.ref 3), some (jb_v l1), some (.ref l2), some (jb_v l3), some (jb_v l4), some (jb_v l5)] [] σ Q := by
  refine jiL5 (p := 175) rfl jM14 jq14_173 ?_
  refine jw_iconst (p := 176) rfl jM14 jq14_175 ?_
  refine jw_ic (p := 179) rfl jM14 jq14_176 (jc_ne hl5 (jb_rn rfl)) (fun c1 => ?_) (fun c1 => ?_)
  · have h1 := h.1 c1
    refine jw_iconst (p := 184) rfl jM14 jq14_183 ?_
    exact jw_iret jM14 jq14_184 (fun _ => Or.inl rfl) h1
  · have h1 := h.2 c1
    refine jw_iconst (p := 180) rfl jM14 jq14_179 ?_
    refine jw_goto jM14 jq14_180 ?_
    exact jw_iret jM14 jq14_184 (fun _ => Or.inr rfl) h1
theorem jk14_131 {d : Nat} {σ : ib_H} {Q : ib_O → Prop} {l1 : Int} {l2 : Nat} {l3 : Int} {l4 : Int} {l5 : Int} (hF : jb_F σ) (hl1 : jb_r l1) (hl2 : l2 ≠ 0 → jb_pg σ l2) (hl3 : jb_r l3) (hl4 : jb_r l4) (hl5 : jb_r l5)
    (h : (l5 ≤ 2 → (l5 ≤ 3 → (¬ l5 = 4 → Q (.inl (some (jb_v 0)), σ)) ∧ (¬ (¬ l5 = 4) → Q (.inl (some (jb_v 1)), σ))) ∧ (¬ (l5 ≤ 3) → (0 ≤ l1 ∧ l1 < 24) ∧ (jb_w d 35 0 [some (.ref (9 + 2 * Int.toNat l1)), some (.ref l2), none] [] (jb_si σ 6 l1 (jb_i σ 3 7)) (jb_k (d + 1) 14 170 [some (.ref 3), some (jb_v l1), some (.ref l2), some (jb_v l3), some (jb_v l4), some (jb_v l5)] [] Q)))) ∧ (¬ (l5 ≤ 2) → (0 ≤ l1 ∧ l1 < 24) ∧ ((l5 ≤ 3 → (¬ l5 = 4 → Q (.inl (some (jb_v 0)), jb_si σ 5 l1 (jb_i σ 3 7))) ∧ (¬ (¬ l5 = 4) → Q (.inl (some (jb_v 1)), jb_si σ 5 l1 (jb_i σ 3 7)))) ∧ (¬ (l5 ≤ 3) → jb_w d 35 0 [some (.ref (9 + 2 * Int.toNat l1)), some (.ref l2), none] [] (jb_si (jb_si σ 5 l1 (jb_i σ 3 7)) 6 l1 (jb_i (jb_si σ 5 l1 (jb_i σ 3 7)) 3 7)) (jb_k (d + 1) 14 170 [some (.ref 3), some (jb_v l1), some (.ref l2), some (jb_v l3), some (jb_v l4), some (jb_v l5)] [] Q))))) :
    jb_w (d + 1) 14 131 [some (.ref 3), some (jb_v l1), some (.ref l2), some (jb_v l3), some (jb_v l4), some (jb_v l5)] [] σ Q := by
  refine jiL5 (p := 133) rfl jM14 jq14_131 ?_
  refine jw_iconst (p := 134) rfl jM14 jq14_133 ?_
  refine jw_ic (p := 137) rfl jM14 jq14_134 (jc_le hl5 (jb_rn rfl)) (fun c1 => ?_) (fun c1 => ?_)
  · have h1 := h.1 c1
    refine jiL5 (p := 149) rfl jM14 jq14_147 ?_
    refine jw_iconst (p := 150) rfl jM14 jq14_149 ?_
    refine jw_ic (p := 153) rfl jM14 jq14_150 (jc_le hl5 (jb_rn rfl)) (fun c2 => ?_) (fun c2 => ?_)
    · have h2 := h1.1 c2
      refine jiL5 (p := 175) rfl jM14 jq14_173 ?_
      refine jw_iconst (p := 176) rfl jM14 jq14_175 ?_
      refine jw_ic (p := 179) rfl jM14 jq14_176 (jc_ne hl5 (jb_rn rfl)) (fun c3 => ?_) (fun c3 => ?_)
      · have h3 := h2.1 c3
        refine jw_iconst (p := 184) rfl jM14 jq14_183 ?_
        exact jw_iret jM14 jq14_184 (fun _ => Or.inl rfl) h3
      · have h3 := h2.2 c3
        refine jw_iconst (p := 180) rfl jM14 jq14_179 ?_
        refine jw_goto jM14 jq14_180 ?_
        exact jw_iret jM14 jq14_184 (fun _ => Or.inr rfl) h3
    · have h2 := h1.2 c2
      refine jaL0 (p := 154) rfl jM14 jq14_153 ?_
      refine jw_getP (p := 157) (i := 2) (q := 6) rfl jM14 jq14_154 rfl (jo_3 hF) je_1_2 (jp_3_2 hF) ?_
      refine jiL1 (p := 158) rfl jM14 jq14_157 ?_
      refine jaL0 (p := 159) rfl jM14 jq14_158 ?_
      refine jw_getI (p := 162) (i := 7) rfl jM14 jq14_159 rfl (jo_3 hF) jn_1_7 ?_
      obtain ⟨c4, h4⟩ := h2
      refine jw_iast (p := 163) rfl jM14 jq14_162 (ja_6 hF) c4.1 c4.2 ?_
      refine jaL0 (p := 164) rfl jM14 jq14_163 ?_
      refine jw_getP (p := 167) (i := 0) (q := 4) rfl jM14 jq14_164 rfl (jo_3 hF) je_1_0 (jp_3_0 hF) ?_
      refine jiL1 (p := 168) rfl jM14 jq14_167 ?_
      refine jw_aald (p := 169) rfl jM14 jq14_168 (ja_4 hF) (Or.inl rfl) c4.1 c4.2 (jb_Fqd hF c4.1 c4.2) ?_
      refine jaL2 (p := 170) rfl jM14 jq14_169 ?_
      refine jw_callV [(.ref l2)] jM14 jq14_170 rfl rfl (jb_Fpgd hF c4.1 c4.2).ob rfl jM35 rfl rfl ?_
      exact h4
  · have h1 := h.2 c1
    refine jaL0 (p := 138) rfl jM14 jq14_137 ?_
    refine jw_getP (p := 141) (i := 1) (q := 5) rfl jM14 jq14_138 rfl (jo_3 hF) je_1_1 (jp_3_1 hF) ?_
    refine jiL1 (p := 142) rfl jM14 jq14_141 ?_
    refine jaL0 (p := 143) rfl jM14 jq14_142 ?_
    refine jw_getI (p := 146) (i := 7) rfl jM14 jq14_143 rfl (jo_3 hF) jn_1_7 ?_
    obtain ⟨c5, h5⟩ := h1
    refine jw_iast (p := 147) rfl jM14 jq14_146 (ja_5 hF) c5.1 c5.2 ?_
    refine jiL5 (p := 149) rfl jM14 jq14_147 ?_
    refine jw_iconst (p := 150) rfl jM14 jq14_149 ?_
    refine jw_ic (p := 153) rfl jM14 jq14_150 (jc_le hl5 (jb_rn rfl)) (fun c6 => ?_) (fun c6 => ?_)
    · have h6 := h5.1 c6
      refine jiL5 (p := 175) rfl jM14 jq14_173 ?_
      refine jw_iconst (p := 176) rfl jM14 jq14_175 ?_
      refine jw_ic (p := 179) rfl jM14 jq14_176 (jc_ne hl5 (jb_rn rfl)) (fun c7 => ?_) (fun c7 => ?_)
      · have h7 := h6.1 c7
        refine jw_iconst (p := 184) rfl jM14 jq14_183 ?_
        exact jw_iret jM14 jq14_184 (fun _ => Or.inl rfl) h7
      · have h7 := h6.2 c7
        refine jw_iconst (p := 180) rfl jM14 jq14_179 ?_
        refine jw_goto jM14 jq14_180 ?_
        exact jw_iret jM14 jq14_184 (fun _ => Or.inr rfl) h7
    · have h6 := h5.2 c6
      refine jaL0 (p := 154) rfl jM14 jq14_153 ?_
      refine jw_getP (p := 157) (i := 2) (q := 6) rfl jM14 jq14_154 rfl (jo_3 hF) je_1_2 (jp_3_2 hF) ?_
      refine jiL1 (p := 158) rfl jM14 jq14_157 ?_
      refine jaL0 (p := 159) rfl jM14 jq14_158 ?_
      refine jw_getI (p := 162) (i := 7) rfl jM14 jq14_159 rfl (jo_3 hF) jn_1_7 ?_
      refine jw_iast (p := 163) rfl jM14 jq14_162 (ja_6 hF) c5.1 c5.2 ?_
      refine jaL0 (p := 164) rfl jM14 jq14_163 ?_
      refine jw_getP (p := 167) (i := 0) (q := 4) rfl jM14 jq14_164 rfl (jo_3 hF) je_1_0 (jp_3_0 hF) ?_
      refine jiL1 (p := 168) rfl jM14 jq14_167 ?_
      refine jw_aald (p := 169) rfl jM14 jq14_168 (ja_4 hF) (Or.inl rfl) c5.1 c5.2 (jb_Fqd hF c5.1 c5.2) ?_
      refine jaL2 (p := 170) rfl jM14 jq14_169 ?_
      refine jw_callV [(.ref l2)] jM14 jq14_170 rfl rfl (jb_Fpgd hF c5.1 c5.2).ob rfl jM35 rfl rfl ?_
      exact h6
-- 15 PageLoom$Disk.isTorn(I)Z
theorem jk15_0 {d : Nat} {σ : ib_H} {Q : ib_O → Prop} {l1 : Int} (hF : jb_F σ) (hl1 : jb_r l1)
    (h : (l1 < 0 → Q (.inl (some (jb_v 0)), σ)) ∧ (¬ (l1 < 0) → (24 ≤ l1 → Q (.inl (some (jb_v 0)), σ)) ∧ (¬ (24 ≤ l1) → (0 ≤ l1 ∧ l1 < 24) ∧ ((jb_i σ 5 l1 = jb_i σ 6 l1 → Q (.inl (some (jb_v 0)), σ)) ∧ (¬ (jb_i σ 5 l1 = jb_i σ 6 l1) → Q (.inl (some (jb_v 1)), σ)))))) :
    jb_w d 15 0 [some (.ref 3), some (jb_v l1)] [] σ Q := by
  refine jiL1 (p := 1) rfl jM15 jq15_0 ?_
  refine jw_if (p := 4) rfl jM15 jq15_1 (jc_lt hl1 jb_r0) (fun c1 => ?_) (fun c1 => ?_)
  · have h1 := h.1 c1
    refine jw_iconst (p := 30) rfl jM15 jq15_29 ?_
    exact jw_iret jM15 jq15_30 (fun _ => Or.inl rfl) h1
  · have h1 := h.2 c1
    refine jiL1 (p := 5) rfl jM15 jq15_4 ?_
    refine jw_bipush (p := 7) rfl jM15 jq15_5 (by decide) ?_
    refine jw_ic (p := 10) rfl jM15 jq15_7 (jc_ge hl1 (jb_rn rfl)) (fun c2 => ?_) (fun c2 => ?_)
    · have h2 := h1.1 c2
      refine jw_iconst (p := 30) rfl jM15 jq15_29 ?_
      exact jw_iret jM15 jq15_30 (fun _ => Or.inl rfl) h2
    · have h2 := h1.2 c2
      refine jaL0 (p := 11) rfl jM15 jq15_10 ?_
      refine jw_getP (p := 14) (i := 1) (q := 5) rfl jM15 jq15_11 rfl (jo_3 hF) je_1_1 (jp_3_1 hF) ?_
      refine jiL1 (p := 15) rfl jM15 jq15_14 ?_
      obtain ⟨c3, h3⟩ := h2
      refine jw_iald (p := 16) rfl jM15 jq15_15 (ja_5 hF) c3.1 c3.2 ?_
      refine jaL0 (p := 17) rfl jM15 jq15_16 ?_
      refine jw_getP (p := 20) (i := 2) (q := 6) rfl jM15 jq15_17 rfl (jo_3 hF) je_1_2 (jp_3_2 hF) ?_
      refine jiL1 (p := 21) rfl jM15 jq15_20 ?_
      refine jw_iald (p := 22) rfl jM15 jq15_21 (ja_6 hF) c3.1 c3.2 ?_
      refine jw_ic (p := 25) rfl jM15 jq15_22 (jc_eq (jb_r_i _ _ _) (jb_r_i _ _ _)) (fun c4 => ?_) (fun c4 => ?_)
      · have h4 := h3.1 c4
        refine jw_iconst (p := 30) rfl jM15 jq15_29 ?_
        exact jw_iret jM15 jq15_30 (fun _ => Or.inl rfl) h4
      · have h4 := h3.2 c4
        refine jw_iconst (p := 26) rfl jM15 jq15_25 ?_
        refine jw_goto jM15 jq15_26 ?_
        exact jw_iret jM15 jq15_30 (fun _ => Or.inr rfl) h4
-- 16 PageLoom$Disk.spareMends()Z
theorem jk16_0 {d : Nat} {σ : ib_H} {Q : ib_O → Prop}  (hF : jb_F σ) 
    (h : (¬ jb_i σ 3 5 = jb_i σ 3 6 → Q (.inl (some (jb_v 0)), σ)) ∧ (¬ (¬ jb_i σ 3 5 = jb_i σ 3 6) → jb_w d 15 0 [some (.ref 3), some (jb_v (jb_i σ 3 4))] [] σ (jb_k (d + 1) 16 16 [some (.ref 3)] [] Q))) :
    jb_w (d + 1) 16 0 [some (.ref 3)] [] σ Q := by
  refine jaL0 (p := 1) rfl jM16 jq16_0 ?_
  refine jw_getI (p := 4) (i := 5) rfl jM16 jq16_1 rfl (jo_3 hF) jn_1_5 ?_
  refine jaL0 (p := 5) rfl jM16 jq16_4 ?_
  refine jw_getI (p := 8) (i := 6) rfl jM16 jq16_5 rfl (jo_3 hF) jn_1_6 ?_
  refine jw_ic (p := 11) rfl jM16 jq16_8 (jc_ne (jb_r_i _ _ _) (jb_r_i _ _ _)) (fun c1 => ?_) (fun c1 => ?_)
  · have h1 := h.1 c1
    refine jw_iconst (p := 27) rfl jM16 jq16_26 ?_
    exact jw_iret jM16 jq16_27 (fun _ => Or.inl rfl) h1
  · have h1 := h.2 c1
    refine jaL0 (p := 12) rfl jM16 jq16_11 ?_
    refine jaL0 (p := 13) rfl jM16 jq16_12 ?_
    refine jw_getI (p := 16) (i := 4) rfl jM16 jq16_13 rfl (jo_3 hF) jn_1_4 ?_
    refine jw_callV [(jb_v (jb_i σ 3 4))] jM16 jq16_16 rfl rfl (jo_3 hF) rfl jM15 rfl rfl ?_
    exact h1
theorem jk16_19 {d : Nat} {σ : ib_H} {Q : ib_O → Prop} {s0 : Int} (hF : jb_F σ) (hs0 : jb_r s0)
    (h : (s0 = 0 → Q (.inl (some (jb_v 0)), σ)) ∧ (¬ (s0 = 0) → Q (.inl (some (jb_v 1)), σ))) :
    jb_w d 16 19 [some (.ref 3)] [(jb_v s0)] σ Q := by
  refine jw_if (p := 22) rfl jM16 jq16_19 (jc_eq hs0 jb_r0) (fun c1 => ?_) (fun c1 => ?_)
  · have h1 := h.1 c1
    refine jw_iconst (p := 27) rfl jM16 jq16_26 ?_
    exact jw_iret jM16 jq16_27 (fun _ => Or.inl rfl) h1
  · have h1 := h.2 c1
    refine jw_iconst (p := 23) rfl jM16 jq16_22 ?_
    refine jw_goto jM16 jq16_23 ?_
    exact jw_iret jM16 jq16_27 (fun _ => Or.inr rfl) h1
-- 17 PageLoom$Disk.mendFromSpare()I
theorem jk17_0 {d : Nat} {σ : ib_H} {Q : ib_O → Prop}  (hF : jb_F σ) 
    (h : (jb_i σ 3 4 < 0 → Q (.inl (some (jb_v 0)), σ)) ∧ (¬ (jb_i σ 3 4 < 0) → (jb_i σ 3 4 < 24 → jb_w d 12 0 [some (.ref 3), some (jb_v 2), none] [] σ (jb_k (d + 1) 17 20 [some (.ref 3), none] [] Q)) ∧ (¬ (jb_i σ 3 4 < 24) → Q (.inl (some (jb_v 0)), σ)))) :
    jb_w (d + 1) 17 0 [some (.ref 3), none] [] σ Q := by
  refine jaL0 (p := 1) rfl jM17 jq17_0 ?_
  refine jw_getI (p := 4) (i := 4) rfl jM17 jq17_1 rfl (jo_3 hF) jn_1_4 ?_
  refine jw_if (p := 7) rfl jM17 jq17_4 (jc_lt (jb_r_i _ _ _) jb_r0) (fun c1 => ?_) (fun c1 => ?_)
  · have h1 := h.1 c1
    refine jw_iconst (p := 17) rfl jM17 jq17_16 ?_
    exact jw_iret jM17 jq17_17 (fun z => absurd z (by decide)) h1
  · have h1 := h.2 c1
    refine jaL0 (p := 8) rfl jM17 jq17_7 ?_
    refine jw_getI (p := 11) (i := 4) rfl jM17 jq17_8 rfl (jo_3 hF) jn_1_4 ?_
    refine jw_bipush (p := 13) rfl jM17 jq17_11 (by decide) ?_
    refine jw_ic (p := 16) rfl jM17 jq17_13 (jc_lt (jb_r_i _ _ _) (jb_rn rfl)) (fun c2 => ?_) (fun c2 => ?_)
    · have h2 := h1.1 c2
      refine jaL0 (p := 19) rfl jM17 jq17_18 ?_
      refine jw_iconst (p := 20) rfl jM17 jq17_19 ?_
      refine jw_callV [(jb_v 2)] jM17 jq17_20 rfl rfl (jo_3 hF) rfl jM12 rfl rfl ?_
      exact h2
    · have h2 := h1.2 c2
      refine jw_iconst (p := 17) rfl jM17 jq17_16 ?_
      exact jw_iret jM17 jq17_17 (fun z => absurd z (by decide)) h2
theorem jk17_23 {d : Nat} {σ : ib_H} {Q : ib_O → Prop} {s0 : Int} (hF : jb_F σ) (hs0 : jb_r s0)
    (h : (s0 ≤ 0 → (s0 ≤ 1 → Q (.inl (some (jb_v s0)), σ)) ∧ (¬ (s0 ≤ 1) → (0 ≤ (jb_i σ 3 4) ∧ (jb_i σ 3 4) < 24) ∧ ((0 ≤ (jb_i (jb_si σ 6 (jb_i σ 3 4) (jb_i σ 3 6)) 3 4) ∧ (jb_i (jb_si σ 6 (jb_i σ 3 4) (jb_i σ 3 6)) 3 4) < 24) ∧ (jb_w d 35 0 [some (.ref (9 + 2 * Int.toNat (jb_i (jb_si σ 6 (jb_i σ 3 4) (jb_i σ 3 6)) 3 4))), some (.ref 7), none] [] (jb_si σ 6 (jb_i σ 3 4) (jb_i σ 3 6)) (jb_k (d + 1) 17 72 [some (.ref 3), some (jb_v s0)] [] Q))))) ∧ (¬ (s0 ≤ 0) → (0 ≤ (jb_i σ 3 4) ∧ (jb_i σ 3 4) < 24) ∧ ((s0 ≤ 1 → Q (.inl (some (jb_v s0)), jb_si σ 5 (jb_i σ 3 4) (jb_i σ 3 5))) ∧ (¬ (s0 ≤ 1) → (0 ≤ (jb_i (jb_si σ 5 (jb_i σ 3 4) (jb_i σ 3 5)) 3 4) ∧ (jb_i (jb_si σ 5 (jb_i σ 3 4) (jb_i σ 3 5)) 3 4) < 24) ∧ ((0 ≤ (jb_i (jb_si (jb_si σ 5 (jb_i σ 3 4) (jb_i σ 3 5)) 6 (jb_i (jb_si σ 5 (jb_i σ 3 4) (jb_i σ 3 5)) 3 4) (jb_i (jb_si σ 5 (jb_i σ 3 4) (jb_i σ 3 5)) 3 6)) 3 4) ∧ (jb_i (jb_si (jb_si σ 5 (jb_i σ 3 4) (jb_i σ 3 5)) 6 (jb_i (jb_si σ 5 (jb_i σ 3 4) (jb_i σ 3 5)) 3 4) (jb_i (jb_si σ 5 (jb_i σ 3 4) (jb_i σ 3 5)) 3 6)) 3 4) < 24) ∧ (jb_w d 35 0 [some (.ref (9 + 2 * Int.toNat (jb_i (jb_si (jb_si σ 5 (jb_i σ 3 4) (jb_i σ 3 5)) 6 (jb_i (jb_si σ 5 (jb_i σ 3 4) (jb_i σ 3 5)) 3 4) (jb_i (jb_si σ 5 (jb_i σ 3 4) (jb_i σ 3 5)) 3 6)) 3 4))), some (.ref 7), none] [] (jb_si (jb_si σ 5 (jb_i σ 3 4) (jb_i σ 3 5)) 6 (jb_i (jb_si σ 5 (jb_i σ 3 4) (jb_i σ 3 5)) 3 4) (jb_i (jb_si σ 5 (jb_i σ 3 4) (jb_i σ 3 5)) 3 6)) (jb_k (d + 1) 17 72 [some (.ref 3), some (jb_v s0)] [] Q))))))) :
    jb_w (d + 1) 17 23 [some (.ref 3), none] [(jb_v s0)] σ Q := by
  refine jiS1 (p := 24) rfl jM17 jq17_23 ?_
  refine jiL1 (p := 25) rfl jM17 jq17_24 ?_
  refine jw_if (p := 28) rfl jM17 jq17_25 (jc_le hs0 jb_r0) (fun c1 => ?_) (fun c1 => ?_)
  · have h1 := h.1 c1
    refine jiL1 (p := 42) rfl jM17 jq17_41 ?_
    refine jw_iconst (p := 43) rfl jM17 jq17_42 ?_
    refine jw_ic (p := 46) rfl jM17 jq17_43 (jc_le hs0 (jb_rn rfl)) (fun c2 => ?_) (fun c2 => ?_)
    · have h2 := h1.1 c2
      refine jiL1 (p := 76) rfl jM17 jq17_75 ?_
      exact jw_iret jM17 jq17_76 (fun z => absurd z (by decide)) h2
    · have h2 := h1.2 c2
      refine jaL0 (p := 47) rfl jM17 jq17_46 ?_
      refine jw_getP (p := 50) (i := 2) (q := 6) rfl jM17 jq17_47 rfl (jo_3 hF) je_1_2 (jp_3_2 hF) ?_
      refine jaL0 (p := 51) rfl jM17 jq17_50 ?_
      refine jw_getI (p := 54) (i := 4) rfl jM17 jq17_51 rfl (jo_3 hF) jn_1_4 ?_
      refine jaL0 (p := 55) rfl jM17 jq17_54 ?_
      refine jw_getI (p := 58) (i := 6) rfl jM17 jq17_55 rfl (jo_3 hF) jn_1_6 ?_
      obtain ⟨c3, h3⟩ := h2
      refine jw_iast (p := 59) rfl jM17 jq17_58 (ja_6 hF) c3.1 c3.2 ?_
      refine jaL0 (p := 60) rfl jM17 jq17_59 ?_
      refine jw_getP (p := 63) (i := 0) (q := 4) rfl jM17 jq17_60 rfl (jo_3 hF) je_1_0 (jp_3_0 hF) ?_
      refine jaL0 (p := 64) rfl jM17 jq17_63 ?_
      refine jw_getI (p := 67) (i := 4) rfl jM17 jq17_64 rfl (jo_3 hF) jn_1_4 ?_
      obtain ⟨c4, h4⟩ := h3
      refine jw_aald (p := 68) rfl jM17 jq17_67 (ja_4 hF) (Or.inl rfl) c4.1 c4.2 (jb_Fqd hF c4.1 c4.2) ?_
      refine jaL0 (p := 69) rfl jM17 jq17_68 ?_
      refine jw_getP (p := 72) (i := 3) (q := 7) rfl jM17 jq17_69 rfl (jo_3 hF) je_1_3 (jp_3_3 hF) ?_
      refine jw_callV [(.ref 7)] jM17 jq17_72 rfl rfl (jb_Fpgd hF c4.1 c4.2).ob rfl jM35 rfl rfl ?_
      exact h4
  · have h1 := h.2 c1
    refine jaL0 (p := 29) rfl jM17 jq17_28 ?_
    refine jw_getP (p := 32) (i := 1) (q := 5) rfl jM17 jq17_29 rfl (jo_3 hF) je_1_1 (jp_3_1 hF) ?_
    refine jaL0 (p := 33) rfl jM17 jq17_32 ?_
    refine jw_getI (p := 36) (i := 4) rfl jM17 jq17_33 rfl (jo_3 hF) jn_1_4 ?_
    refine jaL0 (p := 37) rfl jM17 jq17_36 ?_
    refine jw_getI (p := 40) (i := 5) rfl jM17 jq17_37 rfl (jo_3 hF) jn_1_5 ?_
    obtain ⟨c5, h5⟩ := h1
    refine jw_iast (p := 41) rfl jM17 jq17_40 (ja_5 hF) c5.1 c5.2 ?_
    refine jiL1 (p := 42) rfl jM17 jq17_41 ?_
    refine jw_iconst (p := 43) rfl jM17 jq17_42 ?_
    refine jw_ic (p := 46) rfl jM17 jq17_43 (jc_le hs0 (jb_rn rfl)) (fun c6 => ?_) (fun c6 => ?_)
    · have h6 := h5.1 c6
      refine jiL1 (p := 76) rfl jM17 jq17_75 ?_
      exact jw_iret jM17 jq17_76 (fun z => absurd z (by decide)) h6
    · have h6 := h5.2 c6
      refine jaL0 (p := 47) rfl jM17 jq17_46 ?_
      refine jw_getP (p := 50) (i := 2) (q := 6) rfl jM17 jq17_47 rfl (jo_3 hF) je_1_2 (jp_3_2 hF) ?_
      refine jaL0 (p := 51) rfl jM17 jq17_50 ?_
      refine jw_getI (p := 54) (i := 4) rfl jM17 jq17_51 rfl (jo_3 hF) jn_1_4 ?_
      refine jaL0 (p := 55) rfl jM17 jq17_54 ?_
      refine jw_getI (p := 58) (i := 6) rfl jM17 jq17_55 rfl (jo_3 hF) jn_1_6 ?_
      obtain ⟨c7, h7⟩ := h6
      refine jw_iast (p := 59) rfl jM17 jq17_58 (ja_6 hF) c7.1 c7.2 ?_
      refine jaL0 (p := 60) rfl jM17 jq17_59 ?_
      refine jw_getP (p := 63) (i := 0) (q := 4) rfl jM17 jq17_60 rfl (jo_3 hF) je_1_0 (jp_3_0 hF) ?_
      refine jaL0 (p := 64) rfl jM17 jq17_63 ?_
      refine jw_getI (p := 67) (i := 4) rfl jM17 jq17_64 rfl (jo_3 hF) jn_1_4 ?_
      obtain ⟨c8, h8⟩ := h7
      refine jw_aald (p := 68) rfl jM17 jq17_67 (ja_4 hF) (Or.inl rfl) c8.1 c8.2 (jb_Fqd hF c8.1 c8.2) ?_
      refine jaL0 (p := 69) rfl jM17 jq17_68 ?_
      refine jw_getP (p := 72) (i := 3) (q := 7) rfl jM17 jq17_69 rfl (jo_3 hF) je_1_3 (jp_3_3 hF) ?_
      refine jw_callV [(.ref 7)] jM17 jq17_72 rfl rfl (jb_Fpgd hF c8.1 c8.2).ob rfl jM35 rfl rfl ?_
      exact h8
theorem jk17_75 {d : Nat} {σ : ib_H} {Q : ib_O → Prop} {l1 : Int} (hF : jb_F σ) (hl1 : jb_r l1)
    (h : Q (.inl (some (jb_v l1)), σ)) :
    jb_w d 17 75 [some (.ref 3), some (jb_v l1)] [] σ Q := by
  refine jiL1 (p := 76) rfl jM17 jq17_75 ?_
  exact jw_iret jM17 jq17_76 (fun z => absurd z (by decide)) h
-- 62 PageLoom$Transactions.begin(I)V
theorem jk62_0 {d : Nat} {σ : ib_H} {Q : ib_O → Prop} {l1 : Int} (hF : jb_F σ) (hl1 : jb_r l1)
    (h : (0 ≤ l1 ∧ l1 < 4) ∧ (Q (.inl none, jb_si (jb_si (jb_si σ 58 l1 1) 59 l1 0) 60 l1 0))) :
    jb_w d 62 0 [some (.ref 57), some (jb_v l1)] [] σ Q := by
  refine jaL0 (p := 1) rfl jM62 jq62_0 ?_
  refine jw_getP (p := 4) (i := 0) (q := 58) rfl jM62 jq62_1 rfl (jo_57 hF) je_6_0 (jp_57_0 hF) ?_
  refine jiL1 (p := 5) rfl jM62 jq62_4 ?_
  refine jw_iconst (p := 6) rfl jM62 jq62_5 ?_
  obtain ⟨c1, h1⟩ := h
  refine jw_bast (p := 7) rfl jM62 jq62_6 (ja_58 hF) c1.1 c1.2 (Or.inr rfl) ?_
  refine jaL0 (p := 8) rfl jM62 jq62_7 ?_
  refine jw_getP (p := 11) (i := 1) (q := 59) rfl jM62 jq62_8 rfl (jo_57 hF) je_6_1 (jp_57_1 hF) ?_
  refine jiL1 (p := 12) rfl jM62 jq62_11 ?_
  refine jw_iconst (p := 13) rfl jM62 jq62_12 ?_
  refine jw_iast (p := 14) rfl jM62 jq62_13 (ja_59 hF) c1.1 c1.2 ?_
  refine jaL0 (p := 15) rfl jM62 jq62_14 ?_
  refine jw_getP (p := 18) (i := 2) (q := 60) rfl jM62 jq62_15 rfl (jo_57 hF) je_6_2 (jp_57_2 hF) ?_
  refine jiL1 (p := 19) rfl jM62 jq62_18 ?_
  refine jw_iconst (p := 20) rfl jM62 jq62_19 ?_
  refine jw_iast (p := 21) rfl jM62 jq62_20 (ja_60 hF) c1.1 c1.2 ?_
  exact jw_vret jM62 jq62_21 h1
-- 63 PageLoom$Transactions.finish(I)V
theorem jk63_0 {d : Nat} {σ : ib_H} {Q : ib_O → Prop} {l1 : Int} (hF : jb_F σ) (hl1 : jb_r l1)
    (h : (0 ≤ l1 ∧ l1 < 4) ∧ (jb_w d 63 23 [some (.ref 57), some (jb_v l1), some (jb_v 0)] [] (jb_si (jb_si (jb_si σ 58 l1 0) 59 l1 0) 61 l1 (-1)) Q)) :
    jb_w d 63 0 [some (.ref 57), some (jb_v l1), none] [] σ Q := by
  refine jaL0 (p := 1) rfl jM63 jq63_0 ?_
  refine jw_getP (p := 4) (i := 0) (q := 58) rfl jM63 jq63_1 rfl (jo_57 hF) je_6_0 (jp_57_0 hF) ?_
  refine jiL1 (p := 5) rfl jM63 jq63_4 ?_
  refine jw_iconst (p := 6) rfl jM63 jq63_5 ?_
  obtain ⟨c1, h1⟩ := h
  refine jw_bast (p := 7) rfl jM63 jq63_6 (ja_58 hF) c1.1 c1.2 (Or.inl rfl) ?_
  refine jaL0 (p := 8) rfl jM63 jq63_7 ?_
  refine jw_getP (p := 11) (i := 1) (q := 59) rfl jM63 jq63_8 rfl (jo_57 hF) je_6_1 (jp_57_1 hF) ?_
  refine jiL1 (p := 12) rfl jM63 jq63_11 ?_
  refine jw_iconst (p := 13) rfl jM63 jq63_12 ?_
  refine jw_iast (p := 14) rfl jM63 jq63_13 (ja_59 hF) c1.1 c1.2 ?_
  refine jaL0 (p := 15) rfl jM63 jq63_14 ?_
  refine jw_getP (p := 18) (i := 3) (q := 61) rfl jM63 jq63_15 rfl (jo_57 hF) je_6_3 (jp_57_3 hF) ?_
  refine jiL1 (p := 19) rfl jM63 jq63_18 ?_
  refine jw_iconst (p := 20) rfl jM63 jq63_19 ?_
  refine jw_iast (p := 21) rfl jM63 jq63_20 (ja_61 hF) c1.1 c1.2 ?_
  refine jw_iconst (p := 22) rfl jM63 jq63_21 ?_
  refine jiS2 (p := 23) rfl jM63 jq63_22 ?_
  exact h1
theorem jk63_23 {d : Nat} {σ : ib_H} {Q : ib_O → Prop} {l1 : Int} {l2 : Int} (hF : jb_F σ) (hl1 : jb_r l1) (hl2 : jb_r l2)
    (h : (4 ≤ l2 → jb_w d 63 53 [some (.ref 57), some (jb_v l1), some (jb_v 0)] [] σ Q) ∧ (¬ (4 ≤ l2) → (0 ≤ l2 ∧ l2 < 4) ∧ ((¬ jb_i σ 61 l2 = l1 → jb_w d 63 23 [some (.ref 57), some (jb_v l1), some (jb_v (l2 + 1))] [] σ Q) ∧ (¬ (¬ jb_i σ 61 l2 = l1) → jb_w d 63 23 [some (.ref 57), some (jb_v l1), some (jb_v (l2 + 1))] [] (jb_si σ 61 l2 (-1)) Q)))) :
    jb_w d 63 23 [some (.ref 57), some (jb_v l1), some (jb_v l2)] [] σ Q := by
  refine jiL2 (p := 24) rfl jM63 jq63_23 ?_
  refine jw_iconst (p := 25) rfl jM63 jq63_24 ?_
  refine jw_ic (p := 28) rfl jM63 jq63_25 (jc_ge hl2 (jb_rn rfl)) (fun c1 => ?_) (fun c1 => ?_)
  · have h1 := h.1 c1
    refine jw_iconst (p := 52) rfl jM63 jq63_51 ?_
    refine jiS2 (p := 53) rfl jM63 jq63_52 ?_
    exact h1
  · have h1 := h.2 c1
    refine jaL0 (p := 29) rfl jM63 jq63_28 ?_
    refine jw_getP (p := 32) (i := 3) (q := 61) rfl jM63 jq63_29 rfl (jo_57 hF) je_6_3 (jp_57_3 hF) ?_
    refine jiL2 (p := 33) rfl jM63 jq63_32 ?_
    obtain ⟨c2, h2⟩ := h1
    refine jw_iald (p := 34) rfl jM63 jq63_33 (ja_61 hF) c2.1 c2.2 ?_
    refine jiL1 (p := 35) rfl jM63 jq63_34 ?_
    refine jw_ic (p := 38) rfl jM63 jq63_35 (jc_ne (jb_r_i _ _ _) hl1) (fun c3 => ?_) (fun c3 => ?_)
    · have h3 := h2.1 c3
      refine jiI2 (p := 48) rfl jM63 jq63_45 ?_
      refine jw_goto jM63 jq63_48 ?_
      exact h3
    · have h3 := h2.2 c3
      refine jaL0 (p := 39) rfl jM63 jq63_38 ?_
      refine jw_getP (p := 42) (i := 3) (q := 61) rfl jM63 jq63_39 rfl (jo_57 hF) je_6_3 (jp_57_3 hF) ?_
      refine jiL2 (p := 43) rfl jM63 jq63_42 ?_
      refine jw_iconst (p := 44) rfl jM63 jq63_43 ?_
      refine jw_iast (p := 45) rfl jM63 jq63_44 (ja_61 hF) c2.1 c2.2 ?_
      refine jiI2 (p := 48) rfl jM63 jq63_45 ?_
      refine jw_goto jM63 jq63_48 ?_
      exact h3
theorem jk63_53 {d : Nat} {σ : ib_H} {Q : ib_O → Prop} {l1 : Int} {l2 : Int} (hF : jb_F σ) (hl1 : jb_r l1) (hl2 : jb_r l2)
    (h : (32 ≤ l2 → Q (.inl none, σ)) ∧ (¬ (32 ≤ l2) → (0 ≤ l2 ∧ l2 < 32) ∧ ((¬ jb_i σ 62 l2 = l1 → jb_w d 63 53 [some (.ref 57), some (jb_v l1), some (jb_v (l2 + 1))] [] σ Q) ∧ (¬ (¬ jb_i σ 62 l2 = l1) → jb_w d 63 53 [some (.ref 57), some (jb_v l1), some (jb_v (l2 + 1))] [] (jb_si σ 62 l2 (-1)) Q)))) :
    jb_w d 63 53 [some (.ref 57), some (jb_v l1), some (jb_v l2)] [] σ Q := by
  refine jiL2 (p := 54) rfl jM63 jq63_53 ?_
  refine jw_bipush (p := 56) rfl jM63 jq63_54 (by decide) ?_
  refine jw_ic (p := 59) rfl jM63 jq63_56 (jc_ge hl2 (jb_rn rfl)) (fun c1 => ?_) (fun c1 => ?_)
  · have h1 := h.1 c1
    exact jw_vret jM63 jq63_82 h1
  · have h1 := h.2 c1
    refine jaL0 (p := 60) rfl jM63 jq63_59 ?_
    refine jw_getP (p := 63) (i := 4) (q := 62) rfl jM63 jq63_60 rfl (jo_57 hF) je_6_4 (jp_57_4 hF) ?_
    refine jiL2 (p := 64) rfl jM63 jq63_63 ?_
    obtain ⟨c2, h2⟩ := h1
    refine jw_iald (p := 65) rfl jM63 jq63_64 (ja_62 hF) c2.1 c2.2 ?_
    refine jiL1 (p := 66) rfl jM63 jq63_65 ?_
    refine jw_ic (p := 69) rfl jM63 jq63_66 (jc_ne (jb_r_i _ _ _) hl1) (fun c3 => ?_) (fun c3 => ?_)
    · have h3 := h2.1 c3
      refine jiI2 (p := 79) rfl jM63 jq63_76 ?_
      refine jw_goto jM63 jq63_79 ?_
      exact h3
    · have h3 := h2.2 c3
      refine jaL0 (p := 70) rfl jM63 jq63_69 ?_
      refine jw_getP (p := 73) (i := 4) (q := 62) rfl jM63 jq63_70 rfl (jo_57 hF) je_6_4 (jp_57_4 hF) ?_
      refine jiL2 (p := 74) rfl jM63 jq63_73 ?_
      refine jw_iconst (p := 75) rfl jM63 jq63_74 ?_
      refine jw_iast (p := 76) rfl jM63 jq63_75 (ja_62 hF) c2.1 c2.2 ?_
      refine jiI2 (p := 79) rfl jM63 jq63_76 ?_
      refine jw_goto jM63 jq63_79 ?_
      exact h3
-- 64 PageLoom$Transactions.clear()V
theorem jk64_0 {d : Nat} {σ : ib_H} {Q : ib_O → Prop}  (hF : jb_F σ) 
    (h : jb_w d 64 2 [some (.ref 57), some (jb_v 0)] [] σ Q) :
    jb_w d 64 0 [some (.ref 57), none] [] σ Q := by
  refine jw_iconst (p := 1) rfl jM64 jq64_0 ?_
  refine jiS1 (p := 2) rfl jM64 jq64_1 ?_
  exact h
theorem jk64_2 {d : Nat} {σ : ib_H} {Q : ib_O → Prop} {l1 : Int} (hF : jb_F σ) (hl1 : jb_r l1)
    (h : (4 ≤ l1 → Q (.inl none, σ)) ∧ (¬ (4 ≤ l1) → jb_w d 63 0 [some (.ref 57), some (jb_v l1), none] [] σ (jb_k (d + 1) 64 9 [some (.ref 57), some (jb_v l1)] [] Q))) :
    jb_w (d + 1) 64 2 [some (.ref 57), some (jb_v l1)] [] σ Q := by
  refine jiL1 (p := 3) rfl jM64 jq64_2 ?_
  refine jw_iconst (p := 4) rfl jM64 jq64_3 ?_
  refine jw_ic (p := 7) rfl jM64 jq64_4 (jc_ge hl1 (jb_rn rfl)) (fun c1 => ?_) (fun c1 => ?_)
  · have h1 := h.1 c1
    exact jw_vret jM64 jq64_18 h1
  · have h1 := h.2 c1
    refine jaL0 (p := 8) rfl jM64 jq64_7 ?_
    refine jiL1 (p := 9) rfl jM64 jq64_8 ?_
    refine jw_callV [(jb_v l1)] jM64 jq64_9 rfl rfl (jo_57 hF) rfl jM63 rfl rfl ?_
    exact h1
theorem jk64_12 {d : Nat} {σ : ib_H} {Q : ib_O → Prop} {l1 : Int} (hF : jb_F σ) (hl1 : jb_r l1)
    (h : jb_w d 64 2 [some (.ref 57), some (jb_v (l1 + 1))] [] σ Q) :
    jb_w d 64 12 [some (.ref 57), some (jb_v l1)] [] σ Q := by
  refine jiI1 (p := 15) rfl jM64 jq64_12 ?_
  refine jw_goto jM64 jq64_15 ?_
  exact h
-- 65 PageLoom$Transactions.noteRecord(II)I
theorem jk65_0 {d : Nat} {σ : ib_H} {Q : ib_O → Prop} {l1 : Int} {l2 : Int} (hF : jb_F σ) (hl1 : jb_r l1) (hl2 : jb_r l2)
    (h : (l1 < 0 → Q (.inl (some (jb_v 0)), σ)) ∧ (¬ (l1 < 0) → (l1 < 4 → (0 ≤ l1 ∧ l1 < 4) ∧ (Q (.inl (some (jb_v (jb_i σ 59 l1))), jb_si (jb_si σ 59 l1 l2) 60 l1 ((jb_i (jb_si σ 59 l1 l2) 60 l1) + 1)))) ∧ (¬ (l1 < 4) → Q (.inl (some (jb_v 0)), σ)))) :
    jb_w d 65 0 [some (.ref 57), some (jb_v l1), some (jb_v l2), none] [] σ Q := by
  refine jiL1 (p := 1) rfl jM65 jq65_0 ?_
  refine jw_if (p := 4) rfl jM65 jq65_1 (jc_lt hl1 jb_r0) (fun c1 => ?_) (fun c1 => ?_)
  · have h1 := h.1 c1
    refine jw_iconst (p := 10) rfl jM65 jq65_9 ?_
    exact jw_iret jM65 jq65_10 (fun z => absurd z (by decide)) h1
  · have h1 := h.2 c1
    refine jiL1 (p := 5) rfl jM65 jq65_4 ?_
    refine jw_iconst (p := 6) rfl jM65 jq65_5 ?_
    refine jw_ic (p := 9) rfl jM65 jq65_6 (jc_lt hl1 (jb_rn rfl)) (fun c2 => ?_) (fun c2 => ?_)
    · have h2 := h1.1 c2
      refine jaL0 (p := 12) rfl jM65 jq65_11 ?_
      refine jw_getP (p := 15) (i := 1) (q := 59) rfl jM65 jq65_12 rfl (jo_57 hF) je_6_1 (jp_57_1 hF) ?_
      refine jiL1 (p := 16) rfl jM65 jq65_15 ?_
      obtain ⟨c3, h3⟩ := h2
      refine jw_iald (p := 17) rfl jM65 jq65_16 (ja_59 hF) c3.1 c3.2 ?_
      refine jiS3 (p := 18) rfl jM65 jq65_17 ?_
      refine jaL0 (p := 19) rfl jM65 jq65_18 ?_
      refine jw_getP (p := 22) (i := 1) (q := 59) rfl jM65 jq65_19 rfl (jo_57 hF) je_6_1 (jp_57_1 hF) ?_
      refine jiL1 (p := 23) rfl jM65 jq65_22 ?_
      refine jiL2 (p := 24) rfl jM65 jq65_23 ?_
      refine jw_iast (p := 25) rfl jM65 jq65_24 (ja_59 hF) c3.1 c3.2 ?_
      refine jaL0 (p := 26) rfl jM65 jq65_25 ?_
      refine jw_getP (p := 29) (i := 2) (q := 60) rfl jM65 jq65_26 rfl (jo_57 hF) je_6_2 (jp_57_2 hF) ?_
      refine jiL1 (p := 30) rfl jM65 jq65_29 ?_
      refine jw_dup2 (p := 31) rfl jM65 jq65_30 ?_
      refine jw_iald (p := 32) rfl jM65 jq65_31 (ja_60 hF) c3.1 c3.2 ?_
      refine jw_iconst (p := 33) rfl jM65 jq65_32 ?_
      refine jw_iadd (p := 34) rfl jM65 jq65_33 ?_
      refine jw_iast (p := 35) rfl jM65 jq65_34 (ja_60 hF) c3.1 c3.2 ?_
      refine jiL3 (p := 36) rfl jM65 jq65_35 ?_
      exact jw_iret jM65 jq65_36 (fun z => absurd z (by decide)) h3
    · have h2 := h1.2 c2
      refine jw_iconst (p := 10) rfl jM65 jq65_9 ?_
      exact jw_iret jM65 jq65_10 (fun z => absurd z (by decide)) h2
-- 66 PageLoom$Transactions.victimOnRing(I)I
theorem jk66_0 {d : Nat} {σ : ib_H} {Q : ib_O → Prop} {l1 : Int} (hF : jb_F σ) (hl1 : jb_r l1)
    (h : (0 ≤ l1 ∧ l1 < 4) ∧ (jb_w d 66 12 [some (.ref 57), some (jb_v l1), some (jb_v l1), some (jb_v (jb_i σ 61 l1)), some (jb_v 0)] [] σ Q)) :
    jb_w d 66 0 [some (.ref 57), some (jb_v l1), none, none, none] [] σ Q := by
  refine jiL1 (p := 1) rfl jM66 jq66_0 ?_
  refine jiS2 (p := 2) rfl jM66 jq66_1 ?_
  refine jaL0 (p := 3) rfl jM66 jq66_2 ?_
  refine jw_getP (p := 6) (i := 3) (q := 61) rfl jM66 jq66_3 rfl (jo_57 hF) je_6_3 (jp_57_3 hF) ?_
  refine jiL1 (p := 7) rfl jM66 jq66_6 ?_
  obtain ⟨c1, h1⟩ := h
  refine jw_iald (p := 8) rfl jM66 jq66_7 (ja_61 hF) c1.1 c1.2 ?_
  refine jiS3 (p := 9) rfl jM66 jq66_8 ?_
  refine jw_iconst (p := 10) rfl jM66 jq66_9 ?_
  refine jiS4 (p := 12) rfl jM66 jq66_10 ?_
  exact h1
theorem jk66_12 {d : Nat} {σ : ib_H} {Q : ib_O → Prop} {l1 : Int} {l2 : Int} {l3 : Int} {l4 : Int} (hF : jb_F σ) (hl1 : jb_r l1) (hl2 : jb_r l2) (hl3 : jb_r l3) (hl4 : jb_r l4)
    (h : (4 ≤ l4 → (¬ l3 = l1 → Q (.inl (some (jb_v (-1))), σ)) ∧ (¬ (¬ l3 = l1) → Q (.inl (some (jb_v l2)), σ))) ∧ (¬ (4 ≤ l4) → (l3 = l1 → (¬ l3 = l1 → Q (.inl (some (jb_v (-1))), σ)) ∧ (¬ (¬ l3 = l1) → Q (.inl (some (jb_v l2)), σ))) ∧ (¬ (l3 = l1) → (l3 < 0 → Q (.inl (some (jb_v (-1))), σ)) ∧ (¬ (l3 < 0) → (l3 < 4 → (0 ≤ l3 ∧ l3 < 4) ∧ ((0 ≤ l2 ∧ l2 < 4) ∧ ((jb_i σ 60 l3 < jb_i σ 60 l2 → jb_w d 66 12 [some (.ref 57), some (jb_v l1), some (jb_v l3), some (jb_v (jb_i σ 61 l3)), some (jb_v (l4 + 1))] [] σ Q) ∧ (¬ (jb_i σ 60 l3 < jb_i σ 60 l2) → (¬ jb_i σ 60 l3 = jb_i σ 60 l2 → jb_w d 66 12 [some (.ref 57), some (jb_v l1), some (jb_v l2), some (jb_v (jb_i σ 61 l3)), some (jb_v (l4 + 1))] [] σ Q) ∧ (¬ (¬ jb_i σ 60 l3 = jb_i σ 60 l2) → (l3 ≤ l2 → jb_w d 66 12 [some (.ref 57), some (jb_v l1), some (jb_v l2), some (jb_v (jb_i σ 61 l3)), some (jb_v (l4 + 1))] [] σ Q) ∧ (¬ (l3 ≤ l2) → jb_w d 66 12 [some (.ref 57), some (jb_v l1), some (jb_v l3), some (jb_v (jb_i σ 61 l3)), some (jb_v (l4 + 1))] [] σ Q)))))) ∧ (¬ (l3 < 4) → Q (.inl (some (jb_v (-1))), σ)))))) :
    jb_w d 66 12 [some (.ref 57), some (jb_v l1), some (jb_v l2), some (jb_v l3), some (jb_v l4)] [] σ Q := by
  refine jiL4 (p := 14) rfl jM66 jq66_12 ?_
  refine jw_iconst (p := 15) rfl jM66 jq66_14 ?_
  refine jw_ic (p := 18) rfl jM66 jq66_15 (jc_ge hl4 (jb_rn rfl)) (fun c1 => ?_) (fun c1 => ?_)
  · have h1 := h.1 c1
    refine jiL3 (p := 85) rfl jM66 jq66_84 ?_
    refine jiL1 (p := 86) rfl jM66 jq66_85 ?_
    refine jw_ic (p := 89) rfl jM66 jq66_86 (jc_ne hl3 hl1) (fun c2 => ?_) (fun c2 => ?_)
    · have h2 := h1.1 c2
      refine jw_iconst (p := 94) rfl jM66 jq66_93 ?_
      exact jw_iret jM66 jq66_94 (fun z => absurd z (by decide)) h2
    · have h2 := h1.2 c2
      refine jiL2 (p := 90) rfl jM66 jq66_89 ?_
      refine jw_goto jM66 jq66_90 ?_
      exact jw_iret jM66 jq66_94 (fun z => absurd z (by decide)) h2
  · have h1 := h.2 c1
    refine jiL3 (p := 19) rfl jM66 jq66_18 ?_
    refine jiL1 (p := 20) rfl jM66 jq66_19 ?_
    refine jw_ic (p := 23) rfl jM66 jq66_20 (jc_eq hl3 hl1) (fun c3 => ?_) (fun c3 => ?_)
    · have h3 := h1.1 c3
      refine jiL3 (p := 85) rfl jM66 jq66_84 ?_
      refine jiL1 (p := 86) rfl jM66 jq66_85 ?_
      refine jw_ic (p := 89) rfl jM66 jq66_86 (jc_ne hl3 hl1) (fun c4 => ?_) (fun c4 => ?_)
      · have h4 := h3.1 c4
        refine jw_iconst (p := 94) rfl jM66 jq66_93 ?_
        exact jw_iret jM66 jq66_94 (fun z => absurd z (by decide)) h4
      · have h4 := h3.2 c4
        refine jiL2 (p := 90) rfl jM66 jq66_89 ?_
        refine jw_goto jM66 jq66_90 ?_
        exact jw_iret jM66 jq66_94 (fun z => absurd z (by decide)) h4
    · have h3 := h1.2 c3
      refine jiL3 (p := 24) rfl jM66 jq66_23 ?_
      refine jw_if (p := 27) rfl jM66 jq66_24 (jc_lt hl3 jb_r0) (fun c5 => ?_) (fun c5 => ?_)
      · have h5 := h3.1 c5
        refine jw_iconst (p := 33) rfl jM66 jq66_32 ?_
        exact jw_iret jM66 jq66_33 (fun z => absurd z (by decide)) h5
      · have h5 := h3.2 c5
        refine jiL3 (p := 28) rfl jM66 jq66_27 ?_
        refine jw_iconst (p := 29) rfl jM66 jq66_28 ?_
        refine jw_ic (p := 32) rfl jM66 jq66_29 (jc_lt hl3 (jb_rn rfl)) (fun c6 => ?_) (fun c6 => ?_)
        · have h6 := h5.1 c6
          refine jaL0 (p := 35) rfl jM66 jq66_34 ?_
          refine jw_getP (p := 38) (i := 2) (q := 60) rfl jM66 jq66_35 rfl (jo_57 hF) je_6_2 (jp_57_2 hF) ?_
          refine jiL3 (p := 39) rfl jM66 jq66_38 ?_
          obtain ⟨c7, h7⟩ := h6
          refine jw_iald (p := 40) rfl jM66 jq66_39 (ja_60 hF) c7.1 c7.2 ?_
          refine jaL0 (p := 41) rfl jM66 jq66_40 ?_
          refine jw_getP (p := 44) (i := 2) (q := 60) rfl jM66 jq66_41 rfl (jo_57 hF) je_6_2 (jp_57_2 hF) ?_
          refine jiL2 (p := 45) rfl jM66 jq66_44 ?_
          obtain ⟨c8, h8⟩ := h7
          refine jw_iald (p := 46) rfl jM66 jq66_45 (ja_60 hF) c8.1 c8.2 ?_
          refine jw_ic (p := 49) rfl jM66 jq66_46 (jc_lt (jb_r_i _ _ _) (jb_r_i _ _ _)) (fun c9 => ?_) (fun c9 => ?_)
          · have h9 := h8.1 c9
            refine jiL3 (p := 70) rfl jM66 jq66_69 ?_
            refine jiS2 (p := 71) rfl jM66 jq66_70 ?_
            refine jaL0 (p := 72) rfl jM66 jq66_71 ?_
            refine jw_getP (p := 75) (i := 3) (q := 61) rfl jM66 jq66_72 rfl (jo_57 hF) je_6_3 (jp_57_3 hF) ?_
            refine jiL3 (p := 76) rfl jM66 jq66_75 ?_
            refine jw_iald (p := 77) rfl jM66 jq66_76 (ja_61 hF) c7.1 c7.2 ?_
            refine jiS3 (p := 78) rfl jM66 jq66_77 ?_
            refine jiI4 (p := 81) rfl jM66 jq66_78 ?_
            refine jw_goto jM66 jq66_81 ?_
            exact h9
          · have h9 := h8.2 c9
            refine jaL0 (p := 50) rfl jM66 jq66_49 ?_
            refine jw_getP (p := 53) (i := 2) (q := 60) rfl jM66 jq66_50 rfl (jo_57 hF) je_6_2 (jp_57_2 hF) ?_
            refine jiL3 (p := 54) rfl jM66 jq66_53 ?_
            refine jw_iald (p := 55) rfl jM66 jq66_54 (ja_60 hF) c7.1 c7.2 ?_
            refine jaL0 (p := 56) rfl jM66 jq66_55 ?_
            refine jw_getP (p := 59) (i := 2) (q := 60) rfl jM66 jq66_56 rfl (jo_57 hF) je_6_2 (jp_57_2 hF) ?_
            refine jiL2 (p := 60) rfl jM66 jq66_59 ?_
            refine jw_iald (p := 61) rfl jM66 jq66_60 (ja_60 hF) c8.1 c8.2 ?_
            refine jw_ic (p := 64) rfl jM66 jq66_61 (jc_ne (jb_r_i _ _ _) (jb_r_i _ _ _)) (fun c10 => ?_) (fun c10 => ?_)
            · have h10 := h9.1 c10
              refine jaL0 (p := 72) rfl jM66 jq66_71 ?_
              refine jw_getP (p := 75) (i := 3) (q := 61) rfl jM66 jq66_72 rfl (jo_57 hF) je_6_3 (jp_57_3 hF) ?_
              refine jiL3 (p := 76) rfl jM66 jq66_75 ?_
              refine jw_iald (p := 77) rfl jM66 jq66_76 (ja_61 hF) c7.1 c7.2 ?_
              refine jiS3 (p := 78) rfl jM66 jq66_77 ?_
              refine jiI4 (p := 81) rfl jM66 jq66_78 ?_
              refine jw_goto jM66 jq66_81 ?_
              exact h10
            · have h10 := h9.2 c10
              refine jiL3 (p := 65) rfl jM66 jq66_64 ?_
              refine jiL2 (p := 66) rfl jM66 jq66_65 ?_
              refine jw_ic (p := 69) rfl jM66 jq66_66 (jc_le hl3 hl2) (fun c11 => ?_) (fun c11 => ?_)
              · have h11 := h10.1 c11
                refine jaL0 (p := 72) rfl jM66 jq66_71 ?_
                refine jw_getP (p := 75) (i := 3) (q := 61) rfl jM66 jq66_72 rfl (jo_57 hF) je_6_3 (jp_57_3 hF) ?_
                refine jiL3 (p := 76) rfl jM66 jq66_75 ?_
                refine jw_iald (p := 77) rfl jM66 jq66_76 (ja_61 hF) c7.1 c7.2 ?_
                refine jiS3 (p := 78) rfl jM66 jq66_77 ?_
                refine jiI4 (p := 81) rfl jM66 jq66_78 ?_
                refine jw_goto jM66 jq66_81 ?_
                exact h11
              · have h11 := h10.2 c11
                refine jiL3 (p := 70) rfl jM66 jq66_69 ?_
                refine jiS2 (p := 71) rfl jM66 jq66_70 ?_
                refine jaL0 (p := 72) rfl jM66 jq66_71 ?_
                refine jw_getP (p := 75) (i := 3) (q := 61) rfl jM66 jq66_72 rfl (jo_57 hF) je_6_3 (jp_57_3 hF) ?_
                refine jiL3 (p := 76) rfl jM66 jq66_75 ?_
                refine jw_iald (p := 77) rfl jM66 jq66_76 (ja_61 hF) c7.1 c7.2 ?_
                refine jiS3 (p := 78) rfl jM66 jq66_77 ?_
                refine jiI4 (p := 81) rfl jM66 jq66_78 ?_
                refine jw_goto jM66 jq66_81 ?_
                exact h11
        · have h6 := h5.2 c6
          refine jw_iconst (p := 33) rfl jM66 jq66_32 ?_
          exact jw_iret jM66 jq66_33 (fun z => absurd z (by decide)) h6
-- 67 PageLoom$Transactions.tellLatest(LPageLoom$LogRecord;)V
theorem jk67_0 {d : Nat} {σ : ib_H} {Q : ib_O → Prop} {l1 : Nat} (hF : jb_F σ) (hl1 : l1 ≠ 0 → jb_rc σ l1)
    (h : (l1 ≠ 0) ∧ ((jb_p σ l1 11 ≠ 0 → jb_arr σ 100 (jb_p σ l1 11) 4) ∧ ((¬ jb_p σ l1 11 = 0 → jb_w d 67 16 [some (.ref 57), some (.ref l1), some (jb_v 0)] [] σ Q) ∧ (jb_p σ l1 11 = 0 → jb_w d 67 9 [some (.ref 57), some (.ref l1), none] [(jb_v 4), (.ref l1)] σ Q)))) :
    jb_w d 67 0 [some (.ref 57), some (.ref l1), none] [] σ Q := by
  refine jaL1 (p := 1) rfl jM67 jq67_0 ?_
  obtain ⟨c1, h1⟩ := h
  refine jw_getP (p := 4) (i := 11) rfl jM67 jq67_1 rfl (hl1 c1).ob je_3_11 rfl ?_
  obtain ⟨c2, h2⟩ := h1
  refine jw_ifnonnull (p := 7) rfl jM67 jq67_4 (fun c3 => ?_) (fun c3 => ?_)
  · have h3 := h2.1 c3
    refine jw_iconst (p := 15) rfl jM67 jq67_14 ?_
    refine jiS2 (p := 16) rfl jM67 jq67_15 ?_
    exact h3
  · have h3 := h2.2 c3
    refine jaL1 (p := 8) rfl jM67 jq67_7 ?_
    refine jw_iconst (p := 9) rfl jM67 jq67_8 ?_
    exact h3
theorem jk67_16 {d : Nat} {σ : ib_H} {Q : ib_O → Prop} {l1 : Nat} {l2 : Int} (hF : jb_F σ) (hl1 : l1 ≠ 0 → jb_rc σ l1) (hl2 : jb_r l2)
    (h : (4 ≤ l2 → Q (.inl none, σ)) ∧ (¬ (4 ≤ l2) → (l1 ≠ 0) ∧ ((jb_p σ l1 11 ≠ 0 → jb_arr σ 100 (jb_p σ l1 11) 4) ∧ ((jb_p σ l1 11 ≠ 0) ∧ ((4 ≤ l2 → Q (.inl none, σ)) ∧ (¬ (4 ≤ l2) → (jb_p σ l1 11 ≠ 0 → jb_arr σ 100 (jb_p σ l1 11) 4) ∧ ((0 ≤ l2 ∧ l2 < 4) ∧ ((jb_i σ 58 l2 = 0 → jb_w d 67 16 [some (.ref 57), some (.ref l1), some (jb_v (l2 + 1))] [] (jb_si σ (jb_p σ l1 11) l2 0) Q) ∧ (¬ (jb_i σ 58 l2 = 0) → jb_w d 67 16 [some (.ref 57), some (.ref l1), some (jb_v (l2 + 1))] [] (jb_si σ (jb_p σ l1 11) l2 (jb_i σ 59 l2)) Q))))))))) :
    jb_w d 67 16 [some (.ref 57), some (.ref l1), some (jb_v l2)] [] σ Q := by
  refine jiL2 (p := 17) rfl jM67 jq67_16 ?_
  refine jw_iconst (p := 18) rfl jM67 jq67_17 ?_
  refine jw_ic (p := 21) rfl jM67 jq67_18 (jc_ge hl2 (jb_rn rfl)) (fun c1 => ?_) (fun c1 => ?_)
  · have h1 := h.1 c1
    exact jw_vret jM67 jq67_61 h1
  · have h1 := h.2 c1
    refine jiL2 (p := 22) rfl jM67 jq67_21 ?_
    refine jaL1 (p := 23) rfl jM67 jq67_22 ?_
    obtain ⟨c2, h2⟩ := h1
    refine jw_getP (p := 26) (i := 11) rfl jM67 jq67_23 rfl (hl1 c2).ob je_3_11 rfl ?_
    obtain ⟨c3, h3⟩ := h2
    obtain ⟨c4, h4⟩ := h3
    refine jw_alen (p := 27) rfl jM67 jq67_26 (c3 c4) (by decide) ?_
    refine jw_ic (p := 30) rfl jM67 jq67_27 (jc_ge hl2 (jb_rn rfl)) (fun c5 => ?_) (fun c5 => ?_)
    · have h5 := h4.1 c5
      exact jw_vret jM67 jq67_61 h5
    · have h5 := h4.2 c5
      refine jaL1 (p := 31) rfl jM67 jq67_30 ?_
      refine jw_getP (p := 34) (i := 11) rfl jM67 jq67_31 rfl (hl1 c2).ob je_3_11 rfl ?_
      obtain ⟨c6, h6⟩ := h5
      refine jiL2 (p := 35) rfl jM67 jq67_34 ?_
      refine jaL0 (p := 36) rfl jM67 jq67_35 ?_
      refine jw_getP (p := 39) (i := 0) (q := 58) rfl jM67 jq67_36 rfl (jo_57 hF) je_6_0 (jp_57_0 hF) ?_
      refine jiL2 (p := 40) rfl jM67 jq67_39 ?_
      obtain ⟨c7, h7⟩ := h6
      refine jw_bald (p := 41) rfl jM67 jq67_40 (ja_58 hF) c7.1 c7.2 ?_
      refine jw_if (p := 44) rfl jM67 jq67_41 (jc_eq (jb_r_i _ _ _) jb_r0) (fun c8 => ?_) (fun c8 => ?_)
      · have h8 := h7.1 c8
        refine jw_iconst (p := 54) rfl jM67 jq67_53 ?_
        refine jw_iast (p := 55) rfl jM67 jq67_54 (c6 c4) c7.1 c7.2 ?_
        refine jiI2 (p := 58) rfl jM67 jq67_55 ?_
        refine jw_goto jM67 jq67_58 ?_
        exact h8
      · have h8 := h7.2 c8
        refine jaL0 (p := 45) rfl jM67 jq67_44 ?_
        refine jw_getP (p := 48) (i := 1) (q := 59) rfl jM67 jq67_45 rfl (jo_57 hF) je_6_1 (jp_57_1 hF) ?_
        refine jiL2 (p := 49) rfl jM67 jq67_48 ?_
        refine jw_iald (p := 50) rfl jM67 jq67_49 (ja_59 hF) c7.1 c7.2 ?_
        refine jw_goto jM67 jq67_50 ?_
        refine jw_iast (p := 55) rfl jM67 jq67_54 (c6 c4) c7.1 c7.2 ?_
        refine jiI2 (p := 58) rfl jM67 jq67_55 ?_
        refine jw_goto jM67 jq67_58 ?_
        exact h8
theorem jk67_11 {d : Nat} {σ : ib_H} {Q : ib_O → Prop} {l1 : Nat} {s0 : Nat} {s1 : Nat} (hF : jb_F σ) (hl1 : l1 ≠ 0 → jb_rc σ l1) (hs0 : s0 ≠ 0 → jb_rc σ s0) (hs1 : jb_arr σ 100 s1 4)
    (h : (s0 ≠ 0) ∧ (jb_w d 67 16 [some (.ref 57), some (.ref l1), some (jb_v 0)] [] (jb_sp σ s0 11 s1) Q)) :
    jb_w d 67 11 [some (.ref 57), some (.ref l1), none] [(.ref s1), (.ref s0)] σ Q := by
  obtain ⟨c1, h1⟩ := h
  refine jw_putP (p := 14) (i := 11) rfl jM67 jq67_11 rfl (hs0 c1).ob je_3_11 hs1.n1 ?_
  refine jw_iconst (p := 15) rfl jM67 jq67_14 ?_
  refine jiS2 (p := 16) rfl jM67 jq67_15 ?_
  exact h1
-- 25 PageLoom$LogRecord.begin(IIII)V
theorem jk25_0 {d : Nat} {σ : ib_H} {Q : ib_O → Prop} {l0 : Nat} {l1 : Int} {l2 : Int} {l3 : Int} {l4 : Int} (hF : jb_F σ) (hl0 : jb_rc σ l0) (hl1 : jb_r l1) (hl2 : jb_r l2) (hl3 : jb_r l3) (hl4 : jb_r l4)
    (h : Q (.inl none, jb_si (jb_si (jb_si (jb_si (jb_si (jb_si (jb_si (jb_si (jb_si σ l0 0 l1) l0 1 l2) l0 2 l3) l0 3 (-1)) l0 4 (-1)) l0 5 (-1)) l0 6 l4) l0 7 (-1)) l0 8 0)) :
    jb_w d 25 0 [some (.ref l0), some (jb_v l1), some (jb_v l2), some (jb_v l3), some (jb_v l4)] [] σ Q := by
  refine jaL0 (p := 1) rfl jM25 jq25_0 ?_
  refine jiL1 (p := 2) rfl jM25 jq25_1 ?_
  refine jw_putI (p := 5) (i := 0) rfl jM25 jq25_2 rfl hl0.ob (Or.inl jz_3_0) ?_
  refine jaL0 (p := 6) rfl jM25 jq25_5 ?_
  refine jiL2 (p := 7) rfl jM25 jq25_6 ?_
  refine jw_putI (p := 10) (i := 1) rfl jM25 jq25_7 rfl hl0.ob (Or.inl jz_3_1) ?_
  refine jaL0 (p := 11) rfl jM25 jq25_10 ?_
  refine jiL3 (p := 12) rfl jM25 jq25_11 ?_
  refine jw_putI (p := 15) (i := 2) rfl jM25 jq25_12 rfl hl0.ob (Or.inl jz_3_2) ?_
  refine jaL0 (p := 16) rfl jM25 jq25_15 ?_
  refine jw_iconst (p := 17) rfl jM25 jq25_16 ?_
  refine jw_putI (p := 20) (i := 3) rfl jM25 jq25_17 rfl hl0.ob (Or.inl jz_3_3) ?_
  refine jaL0 (p := 21) rfl jM25 jq25_20 ?_
  refine jw_iconst (p := 22) rfl jM25 jq25_21 ?_
  refine jw_putI (p := 25) (i := 4) rfl jM25 jq25_22 rfl hl0.ob (Or.inl jz_3_4) ?_
  refine jaL0 (p := 26) rfl jM25 jq25_25 ?_
  refine jw_iconst (p := 27) rfl jM25 jq25_26 ?_
  refine jw_putI (p := 30) (i := 5) rfl jM25 jq25_27 rfl hl0.ob (Or.inl jz_3_5) ?_
  refine jaL0 (p := 31) rfl jM25 jq25_30 ?_
  refine jiL4 (p := 33) rfl jM25 jq25_31 ?_
  refine jw_putI (p := 36) (i := 6) rfl jM25 jq25_33 rfl hl0.ob (Or.inl jz_3_6) ?_
  refine jaL0 (p := 37) rfl jM25 jq25_36 ?_
  refine jw_iconst (p := 38) rfl jM25 jq25_37 ?_
  refine jw_putI (p := 41) (i := 7) rfl jM25 jq25_38 rfl hl0.ob (Or.inl jz_3_7) ?_
  refine jaL0 (p := 42) rfl jM25 jq25_41 ?_
  refine jw_iconst (p := 43) rfl jM25 jq25_42 ?_
  refine jw_putI (p := 46) (i := 8) rfl jM25 jq25_43 rfl hl0.ob (Or.inl jz_3_8) ?_
  exact jw_vret jM25 jq25_46 h
-- 26 PageLoom$LogRecord.tellLeaf(I)V
theorem jk26_0 {d : Nat} {σ : ib_H} {Q : ib_O → Prop} {l0 : Nat} {l1 : Int} (hF : jb_F σ) (hl0 : jb_rc σ l0) (hl1 : jb_r l1)
    (h : Q (.inl none, jb_si (jb_si σ (l0 + 1) 0 l1) l0 8 1)) :
    jb_w d 26 0 [some (.ref l0), some (jb_v l1)] [] σ Q := by
  refine jaL0 (p := 1) rfl jM26 jq26_0 ?_
  refine jw_getP (p := 4) (i := 9) rfl jM26 jq26_1 rfl hl0.ob je_3_9 hl0.pp ?_
  refine jw_iconst (p := 5) rfl jM26 jq26_4 ?_
  refine jiL1 (p := 6) rfl jM26 jq26_5 ?_
  refine jw_iast (p := 7) rfl jM26 jq26_6 hl0.ap (by decide) (by decide) ?_
  refine jaL0 (p := 8) rfl jM26 jq26_7 ?_
  refine jw_iconst (p := 9) rfl jM26 jq26_8 ?_
  refine jw_putI (p := 12) (i := 8) rfl jM26 jq26_9 rfl hl0.ob (Or.inl jz_3_8) ?_
  exact jw_vret jM26 jq26_12 h
-- 27 PageLoom$LogRecord.tellImage(I)LPageLoom$Page;
theorem jk27_0 {d : Nat} {σ : ib_H} {Q : ib_O → Prop} {l0 : Nat} {l1 : Int} (hF : jb_F σ) (hl0 : jb_rc σ l0) (hl1 : jb_r l1)
    (h : (3 ≤ jb_i σ l0 8 → (jb_p σ (l0 + 2) 2 ≠ 0 → jb_pg σ (jb_p σ (l0 + 2) 2)) ∧ ((¬ jb_p σ (l0 + 2) 2 = 0 → (jb_p σ (l0 + 2) 2 ≠ 0 → jb_pg σ (jb_p σ (l0 + 2) 2)) ∧ (jb_w d 27 43 [some (.ref l0), some (jb_v l1), some (jb_v 2), some (.ref (jb_p σ (l0 + 2) 2))] [] σ Q)) ∧ (jb_p σ (l0 + 2) 2 = 0 → jb_w d 27 26 [some (.ref l0), some (jb_v l1), some (jb_v 2), none] [] σ Q))) ∧ (¬ (3 ≤ jb_i σ l0 8) → (0 ≤ (jb_i σ l0 8) ∧ (jb_i σ l0 8) < 3) ∧ ((jb_p σ (l0 + 2) (jb_i σ l0 8) ≠ 0 → jb_pg σ (jb_p σ (l0 + 2) (jb_i σ l0 8))) ∧ ((¬ jb_p σ (l0 + 2) (jb_i σ l0 8) = 0 → (jb_p σ (l0 + 2) (jb_i σ l0 8) ≠ 0 → jb_pg σ (jb_p σ (l0 + 2) (jb_i σ l0 8))) ∧ (jb_w d 27 43 [some (.ref l0), some (jb_v l1), some (jb_v (jb_i σ l0 8)), some (.ref (jb_p σ (l0 + 2) (jb_i σ l0 8)))] [] σ Q)) ∧ (jb_p σ (l0 + 2) (jb_i σ l0 8) = 0 → jb_w d 27 26 [some (.ref l0), some (jb_v l1), some (jb_v (jb_i σ l0 8)), none] [] σ Q))))) :
    jb_w d 27 0 [some (.ref l0), some (jb_v l1), none, none] [] σ Q := by
  refine jaL0 (p := 1) rfl jM27 jq27_0 ?_
  refine jw_getI (p := 4) (i := 8) rfl jM27 jq27_1 rfl hl0.ob jn_3_8 ?_
  refine jw_iconst (p := 5) rfl jM27 jq27_4 ?_
  refine jw_ic (p := 8) rfl jM27 jq27_5 (jc_ge (jb_r_i _ _ _) (jb_rn rfl)) (fun c1 => ?_) (fun c1 => ?_)
  · have h1 := h.1 c1
    refine jw_iconst (p := 16) rfl jM27 jq27_15 ?_
    refine jiS2 (p := 17) rfl jM27 jq27_16 ?_
    refine jaL0 (p := 18) rfl jM27 jq27_17 ?_
    refine jw_getP (p := 21) (i := 10) rfl jM27 jq27_18 rfl hl0.ob je_3_10 hl0.pi ?_
    refine jiL2 (p := 22) rfl jM27 jq27_21 ?_
    refine jw_aald (p := 23) rfl jM27 jq27_22 hl0.ai (by decide) (by decide) (by decide) rfl ?_
    obtain ⟨c2, h2⟩ := h1
    refine jw_ifnonnull (p := 26) rfl jM27 jq27_23 (fun c3 => ?_) (fun c3 => ?_)
    · have h3 := h2.1 c3
      refine jaL0 (p := 37) rfl jM27 jq27_36 ?_
      refine jw_getP (p := 40) (i := 10) rfl jM27 jq27_37 rfl hl0.ob je_3_10 hl0.pi ?_
      refine jiL2 (p := 41) rfl jM27 jq27_40 ?_
      refine jw_aald (p := 42) rfl jM27 jq27_41 hl0.ai (by decide) (by decide) (by decide) rfl ?_
      obtain ⟨c4, h4⟩ := h3
      refine jaS3 (p := 43) rfl jM27 jq27_42 ?_
      exact h4
    · have h3 := h2.2 c3
      exact h3
  · have h1 := h.2 c1
    refine jaL0 (p := 9) rfl jM27 jq27_8 ?_
    refine jw_getI (p := 12) (i := 8) rfl jM27 jq27_9 rfl hl0.ob jn_3_8 ?_
    refine jw_goto jM27 jq27_12 ?_
    refine jiS2 (p := 17) rfl jM27 jq27_16 ?_
    refine jaL0 (p := 18) rfl jM27 jq27_17 ?_
    refine jw_getP (p := 21) (i := 10) rfl jM27 jq27_18 rfl hl0.ob je_3_10 hl0.pi ?_
    refine jiL2 (p := 22) rfl jM27 jq27_21 ?_
    obtain ⟨c5, h5⟩ := h1
    refine jw_aald (p := 23) rfl jM27 jq27_22 hl0.ai (by decide) c5.1 c5.2 rfl ?_
    obtain ⟨c6, h6⟩ := h5
    refine jw_ifnonnull (p := 26) rfl jM27 jq27_23 (fun c7 => ?_) (fun c7 => ?_)
    · have h7 := h6.1 c7
      refine jaL0 (p := 37) rfl jM27 jq27_36 ?_
      refine jw_getP (p := 40) (i := 10) rfl jM27 jq27_37 rfl hl0.ob je_3_10 hl0.pi ?_
      refine jiL2 (p := 41) rfl jM27 jq27_40 ?_
      refine jw_aald (p := 42) rfl jM27 jq27_41 hl0.ai (by decide) c5.1 c5.2 rfl ?_
      obtain ⟨c8, h8⟩ := h7
      refine jaS3 (p := 43) rfl jM27 jq27_42 ?_
      exact h8
    · have h7 := h6.2 c7
      exact h7
theorem jk27_43 {d : Nat} {σ : ib_H} {Q : ib_O → Prop} {l0 : Nat} {l1 : Int} {l2 : Int} {l3 : Nat} (hF : jb_F σ) (hl0 : jb_rc σ l0) (hl1 : jb_r l1) (hl2 : jb_r l2) (hl3 : l3 ≠ 0 → jb_pg σ l3)
    (h : (l2 ≤ 0 → (0 ≤ l2 ∧ l2 < 3) ∧ ((3 ≤ jb_i (jb_sp (jb_si σ (l0 + 1) l2 l1) (l0 + 2) l2 l3) l0 8 → (l3 ≠ 0) ∧ (jb_w d 34 0 [some (.ref l3), some (jb_v 0)] [] (jb_sp (jb_si σ (l0 + 1) l2 l1) (l0 + 2) l2 l3) (jb_k (d + 1) 27 127 [some (.ref l0), some (jb_v l1), some (jb_v l2), some (.ref l3)] [] Q))) ∧ (¬ (3 ≤ jb_i (jb_sp (jb_si σ (l0 + 1) l2 l1) (l0 + 2) l2 l3) l0 8) → (l3 ≠ 0) ∧ (jb_w d 34 0 [some (.ref l3), some (jb_v 0)] [] (jb_si (jb_sp (jb_si σ (l0 + 1) l2 l1) (l0 + 2) l2 l3) l0 8 ((jb_i (jb_sp (jb_si σ (l0 + 1) l2 l1) (l0 + 2) l2 l3) l0 8) + 1)) (jb_k (d + 1) 27 127 [some (.ref l0), some (jb_v l1), some (jb_v l2), some (.ref l3)] [] Q))))) ∧ (¬ (l2 ≤ 0) → (0 ≤ (l2 - 1) ∧ (l2 - 1) < 3) ∧ ((jb_i σ (l0 + 1) (l2 - 1) ≤ l1 → (0 ≤ l2 ∧ l2 < 3) ∧ ((3 ≤ jb_i (jb_sp (jb_si σ (l0 + 1) l2 l1) (l0 + 2) l2 l3) l0 8 → (l3 ≠ 0) ∧ (jb_w d 34 0 [some (.ref l3), some (jb_v 0)] [] (jb_sp (jb_si σ (l0 + 1) l2 l1) (l0 + 2) l2 l3) (jb_k (d + 1) 27 127 [some (.ref l0), some (jb_v l1), some (jb_v l2), some (.ref l3)] [] Q))) ∧ (¬ (3 ≤ jb_i (jb_sp (jb_si σ (l0 + 1) l2 l1) (l0 + 2) l2 l3) l0 8) → (l3 ≠ 0) ∧ (jb_w d 34 0 [some (.ref l3), some (jb_v 0)] [] (jb_si (jb_sp (jb_si σ (l0 + 1) l2 l1) (l0 + 2) l2 l3) l0 8 ((jb_i (jb_sp (jb_si σ (l0 + 1) l2 l1) (l0 + 2) l2 l3) l0 8) + 1)) (jb_k (d + 1) 27 127 [some (.ref l0), some (jb_v l1), some (jb_v l2), some (.ref l3)] [] Q))))) ∧ (¬ (jb_i σ (l0 + 1) (l2 - 1) ≤ l1) → (0 ≤ l2 ∧ l2 < 3) ∧ ((jb_p (jb_si σ (l0 + 1) l2 (jb_i σ (l0 + 1) (l2 - 1))) (l0 + 2) (l2 - 1) ≠ 0 → jb_pg (jb_si σ (l0 + 1) l2 (jb_i σ (l0 + 1) (l2 - 1))) (jb_p (jb_si σ (l0 + 1) l2 (jb_i σ (l0 + 1) (l2 - 1))) (l0 + 2) (l2 - 1))) ∧ (jb_w (d + 1) 27 43 [some (.ref l0), some (jb_v l1), some (jb_v (l2 + (-1))), some (.ref l3)] [] (jb_sp (jb_si σ (l0 + 1) l2 (jb_i σ (l0 + 1) (l2 - 1))) (l0 + 2) l2 (jb_p (jb_si σ (l0 + 1) l2 (jb_i σ (l0 + 1) (l2 - 1))) (l0 + 2) (l2 - 1))) Q)))))) :
    jb_w (d + 1) 27 43 [some (.ref l0), some (jb_v l1), some (jb_v l2), some (.ref l3)] [] σ Q := by
  refine jiL2 (p := 44) rfl jM27 jq27_43 ?_
  refine jw_if (p := 47) rfl jM27 jq27_44 (jc_le hl2 jb_r0) (fun c1 => ?_) (fun c1 => ?_)
  · have h1 := h.1 c1
    refine jaL0 (p := 94) rfl jM27 jq27_93 ?_
    refine jw_getP (p := 97) (i := 9) rfl jM27 jq27_94 rfl hl0.ob je_3_9 hl0.pp ?_
    refine jiL2 (p := 98) rfl jM27 jq27_97 ?_
    refine jiL1 (p := 99) rfl jM27 jq27_98 ?_
    obtain ⟨c2, h2⟩ := h1
    refine jw_iast (p := 100) rfl jM27 jq27_99 hl0.ap c2.1 c2.2 ?_
    refine jaL0 (p := 101) rfl jM27 jq27_100 ?_
    refine jw_getP (p := 104) (i := 10) rfl jM27 jq27_101 rfl hl0.ob je_3_10 hl0.pi ?_
    refine jiL2 (p := 105) rfl jM27 jq27_104 ?_
    refine jaL3 (p := 106) rfl jM27 jq27_105 ?_
    refine jw_aast (p := 107) rfl jM27 jq27_106 hl0.ai (Or.inl ⟨rfl, rfl⟩) c2.1 c2.2 (jb_or_pg hl3) ?_
    refine jaL0 (p := 108) rfl jM27 jq27_107 ?_
    refine jw_getI (p := 111) (i := 8) rfl jM27 jq27_108 rfl hl0.ob jn_3_8 ?_
    refine jw_iconst (p := 112) rfl jM27 jq27_111 ?_
    refine jw_ic (p := 115) rfl jM27 jq27_112 (jc_ge (jb_r_i _ _ _) (jb_rn rfl)) (fun c3 => ?_) (fun c3 => ?_)
    · have h3 := h2.1 c3
      refine jaL3 (p := 126) rfl jM27 jq27_125 ?_
      refine jw_iconst (p := 127) rfl jM27 jq27_126 ?_
      obtain ⟨c4, h4⟩ := h3
      refine jw_callV [(jb_v 0)] jM27 jq27_127 rfl rfl (hl3 c4).ob rfl jM34 rfl rfl ?_
      exact h4
    · have h3 := h2.2 c3
      refine jaL0 (p := 116) rfl jM27 jq27_115 ?_
      refine jw_dupA (p := 117) rfl jM27 jq27_116 ?_
      refine jw_getI (p := 120) (i := 8) rfl jM27 jq27_117 rfl hl0.ob jn_3_8 ?_
      refine jw_iconst (p := 121) rfl jM27 jq27_120 ?_
      refine jw_iadd (p := 122) rfl jM27 jq27_121 ?_
      refine jw_putI (p := 125) (i := 8) rfl jM27 jq27_122 rfl hl0.ob (Or.inl jz_3_8) ?_
      refine jaL3 (p := 126) rfl jM27 jq27_125 ?_
      refine jw_iconst (p := 127) rfl jM27 jq27_126 ?_
      obtain ⟨c5, h5⟩ := h3
      refine jw_callV [(jb_v 0)] jM27 jq27_127 rfl rfl (hl3 c5).ob rfl jM34 rfl rfl ?_
      exact h5
  · have h1 := h.2 c1
    refine jaL0 (p := 48) rfl jM27 jq27_47 ?_
    refine jw_getP (p := 51) (i := 9) rfl jM27 jq27_48 rfl hl0.ob je_3_9 hl0.pp ?_
    refine jiL2 (p := 52) rfl jM27 jq27_51 ?_
    refine jw_iconst (p := 53) rfl jM27 jq27_52 ?_
    refine jw_isub (p := 54) rfl jM27 jq27_53 ?_
    obtain ⟨c6, h6⟩ := h1
    refine jw_iald (p := 55) rfl jM27 jq27_54 hl0.ap c6.1 c6.2 ?_
    refine jiL1 (p := 56) rfl jM27 jq27_55 ?_
    refine jw_ic (p := 59) rfl jM27 jq27_56 (jc_le (jb_r_i _ _ _) hl1) (fun c7 => ?_) (fun c7 => ?_)
    · have h7 := h6.1 c7
      refine jaL0 (p := 94) rfl jM27 jq27_93 ?_
      refine jw_getP (p := 97) (i := 9) rfl jM27 jq27_94 rfl hl0.ob je_3_9 hl0.pp ?_
      refine jiL2 (p := 98) rfl jM27 jq27_97 ?_
      refine jiL1 (p := 99) rfl jM27 jq27_98 ?_
      obtain ⟨c8, h8⟩ := h7
      refine jw_iast (p := 100) rfl jM27 jq27_99 hl0.ap c8.1 c8.2 ?_
      refine jaL0 (p := 101) rfl jM27 jq27_100 ?_
      refine jw_getP (p := 104) (i := 10) rfl jM27 jq27_101 rfl hl0.ob je_3_10 hl0.pi ?_
      refine jiL2 (p := 105) rfl jM27 jq27_104 ?_
      refine jaL3 (p := 106) rfl jM27 jq27_105 ?_
      refine jw_aast (p := 107) rfl jM27 jq27_106 hl0.ai (Or.inl ⟨rfl, rfl⟩) c8.1 c8.2 (jb_or_pg hl3) ?_
      refine jaL0 (p := 108) rfl jM27 jq27_107 ?_
      refine jw_getI (p := 111) (i := 8) rfl jM27 jq27_108 rfl hl0.ob jn_3_8 ?_
      refine jw_iconst (p := 112) rfl jM27 jq27_111 ?_
      refine jw_ic (p := 115) rfl jM27 jq27_112 (jc_ge (jb_r_i _ _ _) (jb_rn rfl)) (fun c9 => ?_) (fun c9 => ?_)
      · have h9 := h8.1 c9
        refine jaL3 (p := 126) rfl jM27 jq27_125 ?_
        refine jw_iconst (p := 127) rfl jM27 jq27_126 ?_
        obtain ⟨c10, h10⟩ := h9
        refine jw_callV [(jb_v 0)] jM27 jq27_127 rfl rfl (hl3 c10).ob rfl jM34 rfl rfl ?_
        exact h10
      · have h9 := h8.2 c9
        refine jaL0 (p := 116) rfl jM27 jq27_115 ?_
        refine jw_dupA (p := 117) rfl jM27 jq27_116 ?_
        refine jw_getI (p := 120) (i := 8) rfl jM27 jq27_117 rfl hl0.ob jn_3_8 ?_
        refine jw_iconst (p := 121) rfl jM27 jq27_120 ?_
        refine jw_iadd (p := 122) rfl jM27 jq27_121 ?_
        refine jw_putI (p := 125) (i := 8) rfl jM27 jq27_122 rfl hl0.ob (Or.inl jz_3_8) ?_
        refine jaL3 (p := 126) rfl jM27 jq27_125 ?_
        refine jw_iconst (p := 127) rfl jM27 jq27_126 ?_
        obtain ⟨c11, h11⟩ := h9
        refine jw_callV [(jb_v 0)] jM27 jq27_127 rfl rfl (hl3 c11).ob rfl jM34 rfl rfl ?_
        exact h11
    · have h7 := h6.2 c7
      refine jaL0 (p := 60) rfl jM27 jq27_59 ?_
      refine jw_getP (p := 63) (i := 9) rfl jM27 jq27_60 rfl hl0.ob je_3_9 hl0.pp ?_
      refine jiL2 (p := 64) rfl jM27 jq27_63 ?_
      refine jaL0 (p := 65) rfl jM27 jq27_64 ?_
      refine jw_getP (p := 68) (i := 9) rfl jM27 jq27_65 rfl hl0.ob je_3_9 hl0.pp ?_
      refine jiL2 (p := 69) rfl jM27 jq27_68 ?_
      refine jw_iconst (p := 70) rfl jM27 jq27_69 ?_
      refine jw_isub (p := 71) rfl jM27 jq27_70 ?_
      refine jw_iald (p := 72) rfl jM27 jq27_71 hl0.ap c6.1 c6.2 ?_
      obtain ⟨c12, h12⟩ := h7
      refine jw_iast (p := 73) rfl jM27 jq27_72 hl0.ap c12.1 c12.2 ?_
      refine jaL0 (p := 74) rfl jM27 jq27_73 ?_
      refine jw_getP (p := 77) (i := 10) rfl jM27 jq27_74 rfl hl0.ob je_3_10 hl0.pi ?_
      refine jiL2 (p := 78) rfl jM27 jq27_77 ?_
      refine jaL0 (p := 79) rfl jM27 jq27_78 ?_
      refine jw_getP (p := 82) (i := 10) rfl jM27 jq27_79 rfl hl0.ob je_3_10 hl0.pi ?_
      refine jiL2 (p := 83) rfl jM27 jq27_82 ?_
      refine jw_iconst (p := 84) rfl jM27 jq27_83 ?_
      refine jw_isub (p := 85) rfl jM27 jq27_84 ?_
      refine jw_aald (p := 86) rfl jM27 jq27_85 hl0.ai (by decide) c6.1 c6.2 rfl ?_
      obtain ⟨c13, h13⟩ := h12
      refine jw_aast (p := 87) rfl jM27 jq27_86 hl0.ai (Or.inl ⟨rfl, rfl⟩) c12.1 c12.2 (jb_or_pg c13) ?_
      refine jiI2 (p := 90) rfl jM27 jq27_87 ?_
      refine jw_goto jM27 jq27_90 ?_
      exact h13
theorem jk27_33 {d : Nat} {σ : ib_H} {Q : ib_O → Prop} {l0 : Nat} {l1 : Int} {l2 : Int} {s0 : Nat} (hF : jb_F σ) (hl0 : jb_rc σ l0) (hl1 : jb_r l1) (hl2 : jb_r l2) (hs0 : jb_pg σ s0)
    (h : jb_w d 27 43 [some (.ref l0), some (jb_v l1), some (jb_v l2), some (.ref s0)] [] σ Q) :
    jb_w d 27 33 [some (.ref l0), some (jb_v l1), some (jb_v l2), none] [(.ref s0)] σ Q := by
  refine jw_goto jM27 jq27_33 ?_
  refine jaS3 (p := 43) rfl jM27 jq27_42 ?_
  exact h
theorem jk27_130 {d : Nat} {σ : ib_H} {Q : ib_O → Prop} {l0 : Nat} {l1 : Int} {l2 : Int} {l3 : Nat} (hF : jb_F σ) (hl0 : jb_rc σ l0) (hl1 : jb_r l1) (hl2 : jb_r l2) (hl3 : l3 ≠ 0 → jb_pg σ l3)
    (h : Q (.inl (some (.ref l3)), σ)) :
    jb_w d 27 130 [some (.ref l0), some (jb_v l1), some (jb_v l2), some (.ref l3)] [] σ Q := by
  refine jaL3 (p := 131) rfl jM27 jq27_130 ?_
  exact jw_aret jM27 jq27_131 h
theorem jk27_43_2 {d : Nat} {σ : ib_H} {Q : ib_O → Prop} {l0 : Nat} {l1 : Int} {l2 : Int} {l3 : Nat} (hF : jb_F σ) (hl0 : jb_rc σ l0) (hl1 : jb_r l1) (hl2 : jb_r l2) (hl3 : jb_pg σ l3)
    (h : (l2 ≤ 0 → (0 ≤ l2 ∧ l2 < 3) ∧ ((3 ≤ jb_i (jb_sp (jb_si σ (l0 + 1) l2 l1) (l0 + 2) l2 l3) l0 8 → jb_w d 34 0 [some (.ref l3), some (jb_v 0)] [] (jb_sp (jb_si σ (l0 + 1) l2 l1) (l0 + 2) l2 l3) (jb_k (d + 1) 27 127 [some (.ref l0), some (jb_v l1), some (jb_v l2), some (.ref l3)] [] Q)) ∧ (¬ (3 ≤ jb_i (jb_sp (jb_si σ (l0 + 1) l2 l1) (l0 + 2) l2 l3) l0 8) → jb_w d 34 0 [some (.ref l3), some (jb_v 0)] [] (jb_si (jb_sp (jb_si σ (l0 + 1) l2 l1) (l0 + 2) l2 l3) l0 8 ((jb_i (jb_sp (jb_si σ (l0 + 1) l2 l1) (l0 + 2) l2 l3) l0 8) + 1)) (jb_k (d + 1) 27 127 [some (.ref l0), some (jb_v l1), some (jb_v l2), some (.ref l3)] [] Q)))) ∧ (¬ (l2 ≤ 0) → (0 ≤ (l2 - 1) ∧ (l2 - 1) < 3) ∧ ((jb_i σ (l0 + 1) (l2 - 1) ≤ l1 → (0 ≤ l2 ∧ l2 < 3) ∧ ((3 ≤ jb_i (jb_sp (jb_si σ (l0 + 1) l2 l1) (l0 + 2) l2 l3) l0 8 → jb_w d 34 0 [some (.ref l3), some (jb_v 0)] [] (jb_sp (jb_si σ (l0 + 1) l2 l1) (l0 + 2) l2 l3) (jb_k (d + 1) 27 127 [some (.ref l0), some (jb_v l1), some (jb_v l2), some (.ref l3)] [] Q)) ∧ (¬ (3 ≤ jb_i (jb_sp (jb_si σ (l0 + 1) l2 l1) (l0 + 2) l2 l3) l0 8) → jb_w d 34 0 [some (.ref l3), some (jb_v 0)] [] (jb_si (jb_sp (jb_si σ (l0 + 1) l2 l1) (l0 + 2) l2 l3) l0 8 ((jb_i (jb_sp (jb_si σ (l0 + 1) l2 l1) (l0 + 2) l2 l3) l0 8) + 1)) (jb_k (d + 1) 27 127 [some (.ref l0), some (jb_v l1), some (jb_v l2), some (.ref l3)] [] Q)))) ∧ (¬ (jb_i σ (l0 + 1) (l2 - 1) ≤ l1) → (0 ≤ l2 ∧ l2 < 3) ∧ ((jb_p (jb_si σ (l0 + 1) l2 (jb_i σ (l0 + 1) (l2 - 1))) (l0 + 2) (l2 - 1) ≠ 0 → jb_pg (jb_si σ (l0 + 1) l2 (jb_i σ (l0 + 1) (l2 - 1))) (jb_p (jb_si σ (l0 + 1) l2 (jb_i σ (l0 + 1) (l2 - 1))) (l0 + 2) (l2 - 1))) ∧ (jb_w (d + 1) 27 43 [some (.ref l0), some (jb_v l1), some (jb_v (l2 + (-1))), some (.ref l3)] [] (jb_sp (jb_si σ (l0 + 1) l2 (jb_i σ (l0 + 1) (l2 - 1))) (l0 + 2) l2 (jb_p (jb_si σ (l0 + 1) l2 (jb_i σ (l0 + 1) (l2 - 1))) (l0 + 2) (l2 - 1))) Q)))))) :
    jb_w (d + 1) 27 43 [some (.ref l0), some (jb_v l1), some (jb_v l2), some (.ref l3)] [] σ Q := by
  refine jiL2 (p := 44) rfl jM27 jq27_43 ?_
  refine jw_if (p := 47) rfl jM27 jq27_44 (jc_le hl2 jb_r0) (fun c1 => ?_) (fun c1 => ?_)
  · have h1 := h.1 c1
    refine jaL0 (p := 94) rfl jM27 jq27_93 ?_
    refine jw_getP (p := 97) (i := 9) rfl jM27 jq27_94 rfl hl0.ob je_3_9 hl0.pp ?_
    refine jiL2 (p := 98) rfl jM27 jq27_97 ?_
    refine jiL1 (p := 99) rfl jM27 jq27_98 ?_
    obtain ⟨c2, h2⟩ := h1
    refine jw_iast (p := 100) rfl jM27 jq27_99 hl0.ap c2.1 c2.2 ?_
    refine jaL0 (p := 101) rfl jM27 jq27_100 ?_
    refine jw_getP (p := 104) (i := 10) rfl jM27 jq27_101 rfl hl0.ob je_3_10 hl0.pi ?_
    refine jiL2 (p := 105) rfl jM27 jq27_104 ?_
    refine jaL3 (p := 106) rfl jM27 jq27_105 ?_
    refine jw_aast (p := 107) rfl jM27 jq27_106 hl0.ai (Or.inl ⟨rfl, rfl⟩) c2.1 c2.2 (Or.inr hl3.ob) ?_
    refine jaL0 (p := 108) rfl jM27 jq27_107 ?_
    refine jw_getI (p := 111) (i := 8) rfl jM27 jq27_108 rfl hl0.ob jn_3_8 ?_
    refine jw_iconst (p := 112) rfl jM27 jq27_111 ?_
    refine jw_ic (p := 115) rfl jM27 jq27_112 (jc_ge (jb_r_i _ _ _) (jb_rn rfl)) (fun c3 => ?_) (fun c3 => ?_)
    · have h3 := h2.1 c3
      refine jaL3 (p := 126) rfl jM27 jq27_125 ?_
      refine jw_iconst (p := 127) rfl jM27 jq27_126 ?_
      refine jw_callV [(jb_v 0)] jM27 jq27_127 rfl rfl hl3.ob rfl jM34 rfl rfl ?_
      exact h3
    · have h3 := h2.2 c3
      refine jaL0 (p := 116) rfl jM27 jq27_115 ?_
      refine jw_dupA (p := 117) rfl jM27 jq27_116 ?_
      refine jw_getI (p := 120) (i := 8) rfl jM27 jq27_117 rfl hl0.ob jn_3_8 ?_
      refine jw_iconst (p := 121) rfl jM27 jq27_120 ?_
      refine jw_iadd (p := 122) rfl jM27 jq27_121 ?_
      refine jw_putI (p := 125) (i := 8) rfl jM27 jq27_122 rfl hl0.ob (Or.inl jz_3_8) ?_
      refine jaL3 (p := 126) rfl jM27 jq27_125 ?_
      refine jw_iconst (p := 127) rfl jM27 jq27_126 ?_
      refine jw_callV [(jb_v 0)] jM27 jq27_127 rfl rfl hl3.ob rfl jM34 rfl rfl ?_
      exact h3
  · have h1 := h.2 c1
    refine jaL0 (p := 48) rfl jM27 jq27_47 ?_
    refine jw_getP (p := 51) (i := 9) rfl jM27 jq27_48 rfl hl0.ob je_3_9 hl0.pp ?_
    refine jiL2 (p := 52) rfl jM27 jq27_51 ?_
    refine jw_iconst (p := 53) rfl jM27 jq27_52 ?_
    refine jw_isub (p := 54) rfl jM27 jq27_53 ?_
    obtain ⟨c4, h4⟩ := h1
    refine jw_iald (p := 55) rfl jM27 jq27_54 hl0.ap c4.1 c4.2 ?_
    refine jiL1 (p := 56) rfl jM27 jq27_55 ?_
    refine jw_ic (p := 59) rfl jM27 jq27_56 (jc_le (jb_r_i _ _ _) hl1) (fun c5 => ?_) (fun c5 => ?_)
    · have h5 := h4.1 c5
      refine jaL0 (p := 94) rfl jM27 jq27_93 ?_
      refine jw_getP (p := 97) (i := 9) rfl jM27 jq27_94 rfl hl0.ob je_3_9 hl0.pp ?_
      refine jiL2 (p := 98) rfl jM27 jq27_97 ?_
      refine jiL1 (p := 99) rfl jM27 jq27_98 ?_
      obtain ⟨c6, h6⟩ := h5
      refine jw_iast (p := 100) rfl jM27 jq27_99 hl0.ap c6.1 c6.2 ?_
      refine jaL0 (p := 101) rfl jM27 jq27_100 ?_
      refine jw_getP (p := 104) (i := 10) rfl jM27 jq27_101 rfl hl0.ob je_3_10 hl0.pi ?_
      refine jiL2 (p := 105) rfl jM27 jq27_104 ?_
      refine jaL3 (p := 106) rfl jM27 jq27_105 ?_
      refine jw_aast (p := 107) rfl jM27 jq27_106 hl0.ai (Or.inl ⟨rfl, rfl⟩) c6.1 c6.2 (Or.inr hl3.ob) ?_
      refine jaL0 (p := 108) rfl jM27 jq27_107 ?_
      refine jw_getI (p := 111) (i := 8) rfl jM27 jq27_108 rfl hl0.ob jn_3_8 ?_
      refine jw_iconst (p := 112) rfl jM27 jq27_111 ?_
      refine jw_ic (p := 115) rfl jM27 jq27_112 (jc_ge (jb_r_i _ _ _) (jb_rn rfl)) (fun c7 => ?_) (fun c7 => ?_)
      · have h7 := h6.1 c7
        refine jaL3 (p := 126) rfl jM27 jq27_125 ?_
        refine jw_iconst (p := 127) rfl jM27 jq27_126 ?_
        refine jw_callV [(jb_v 0)] jM27 jq27_127 rfl rfl hl3.ob rfl jM34 rfl rfl ?_
        exact h7
      · have h7 := h6.2 c7
        refine jaL0 (p := 116) rfl jM27 jq27_115 ?_
        refine jw_dupA (p := 117) rfl jM27 jq27_116 ?_
        refine jw_getI (p := 120) (i := 8) rfl jM27 jq27_117 rfl hl0.ob jn_3_8 ?_
        refine jw_iconst (p := 121) rfl jM27 jq27_120 ?_
        refine jw_iadd (p := 122) rfl jM27 jq27_121 ?_
        refine jw_putI (p := 125) (i := 8) rfl jM27 jq27_122 rfl hl0.ob (Or.inl jz_3_8) ?_
        refine jaL3 (p := 126) rfl jM27 jq27_125 ?_
        refine jw_iconst (p := 127) rfl jM27 jq27_126 ?_
        refine jw_callV [(jb_v 0)] jM27 jq27_127 rfl rfl hl3.ob rfl jM34 rfl rfl ?_
        exact h7
    · have h5 := h4.2 c5
      refine jaL0 (p := 60) rfl jM27 jq27_59 ?_
      refine jw_getP (p := 63) (i := 9) rfl jM27 jq27_60 rfl hl0.ob je_3_9 hl0.pp ?_
      refine jiL2 (p := 64) rfl jM27 jq27_63 ?_
      refine jaL0 (p := 65) rfl jM27 jq27_64 ?_
      refine jw_getP (p := 68) (i := 9) rfl jM27 jq27_65 rfl hl0.ob je_3_9 hl0.pp ?_
      refine jiL2 (p := 69) rfl jM27 jq27_68 ?_
      refine jw_iconst (p := 70) rfl jM27 jq27_69 ?_
      refine jw_isub (p := 71) rfl jM27 jq27_70 ?_
      refine jw_iald (p := 72) rfl jM27 jq27_71 hl0.ap c4.1 c4.2 ?_
      obtain ⟨c8, h8⟩ := h5
      refine jw_iast (p := 73) rfl jM27 jq27_72 hl0.ap c8.1 c8.2 ?_
      refine jaL0 (p := 74) rfl jM27 jq27_73 ?_
      refine jw_getP (p := 77) (i := 10) rfl jM27 jq27_74 rfl hl0.ob je_3_10 hl0.pi ?_
      refine jiL2 (p := 78) rfl jM27 jq27_77 ?_
      refine jaL0 (p := 79) rfl jM27 jq27_78 ?_
      refine jw_getP (p := 82) (i := 10) rfl jM27 jq27_79 rfl hl0.ob je_3_10 hl0.pi ?_
      refine jiL2 (p := 83) rfl jM27 jq27_82 ?_
      refine jw_iconst (p := 84) rfl jM27 jq27_83 ?_
      refine jw_isub (p := 85) rfl jM27 jq27_84 ?_
      refine jw_aald (p := 86) rfl jM27 jq27_85 hl0.ai (by decide) c4.1 c4.2 rfl ?_
      obtain ⟨c9, h9⟩ := h8
      refine jw_aast (p := 87) rfl jM27 jq27_86 hl0.ai (Or.inl ⟨rfl, rfl⟩) c8.1 c8.2 (jb_or_pg c9) ?_
      refine jiI2 (p := 90) rfl jM27 jq27_87 ?_
      refine jw_goto jM27 jq27_90 ?_
      exact h9
theorem jk27_130_2 {d : Nat} {σ : ib_H} {Q : ib_O → Prop} {l0 : Nat} {l1 : Int} {l2 : Int} {l3 : Nat} (hF : jb_F σ) (hl0 : jb_rc σ l0) (hl1 : jb_r l1) (hl2 : jb_r l2) (hl3 : jb_pg σ l3)
    (h : Q (.inl (some (.ref l3)), σ)) :
    jb_w d 27 130 [some (.ref l0), some (jb_v l1), some (jb_v l2), some (.ref l3)] [] σ Q := by
  refine jaL3 (p := 131) rfl jM27 jq27_130 ?_
  exact jw_aret jM27 jq27_131 h
-- 28 PageLoom$LogRecord.toldLatest(I)I
theorem jk28_0 {d : Nat} {σ : ib_H} {Q : ib_O → Prop} {l0 : Nat} {l1 : Int} (hF : jb_F σ) (hl0 : jb_rc σ l0) (hl1 : jb_r l1)
    (h : (jb_p σ l0 11 ≠ 0 → jb_arr σ 100 (jb_p σ l0 11) 4) ∧ ((jb_p σ l0 11 = 0 → Q (.inl (some (jb_v 0)), σ)) ∧ (¬ (jb_p σ l0 11 = 0) → (l1 < 0 → Q (.inl (some (jb_v 0)), σ)) ∧ (¬ (l1 < 0) → (jb_p σ l0 11 ≠ 0 → jb_arr σ 100 (jb_p σ l0 11) 4) ∧ ((4 ≤ l1 → Q (.inl (some (jb_v 0)), σ)) ∧ (¬ (4 ≤ l1) → (jb_p σ l0 11 ≠ 0 → jb_arr σ 100 (jb_p σ l0 11) 4) ∧ ((0 ≤ l1 ∧ l1 < 4) ∧ (Q (.inl (some (jb_v (jb_i σ (jb_p σ l0 11) l1))), σ))))))))) :
    jb_w d 28 0 [some (.ref l0), some (jb_v l1), none] [] σ Q := by
  refine jaL0 (p := 1) rfl jM28 jq28_0 ?_
  refine jw_getP (p := 4) (i := 11) rfl jM28 jq28_1 rfl hl0.ob je_3_11 rfl ?_
  obtain ⟨c1, h1⟩ := h
  refine jw_ifnull (p := 7) rfl jM28 jq28_4 (fun c2 => ?_) (fun c2 => ?_)
  · have h2 := h1.1 c2
    refine jw_iconst (p := 25) rfl jM28 jq28_24 ?_
    refine jiS2 (p := 26) rfl jM28 jq28_25 ?_
    refine jiL2 (p := 27) rfl jM28 jq28_26 ?_
    refine jw_if (p := 30) rfl jM28 jq28_27 (jc_eq (jb_rn rfl) jb_r0) (fun _ => ?_) (fun z => absurd (by decide) z)
    refine jw_iconst (p := 40) rfl jM28 jq28_39 ?_
    exact jw_iret jM28 jq28_40 (fun z => absurd z (by decide)) h2
  · have h2 := h1.2 c2
    refine jiL1 (p := 8) rfl jM28 jq28_7 ?_
    refine jw_if (p := 11) rfl jM28 jq28_8 (jc_lt hl1 jb_r0) (fun c3 => ?_) (fun c3 => ?_)
    · have h3 := h2.1 c3
      refine jw_iconst (p := 25) rfl jM28 jq28_24 ?_
      refine jiS2 (p := 26) rfl jM28 jq28_25 ?_
      refine jiL2 (p := 27) rfl jM28 jq28_26 ?_
      refine jw_if (p := 30) rfl jM28 jq28_27 (jc_eq (jb_rn rfl) jb_r0) (fun _ => ?_) (fun z => absurd (by decide) z)
      refine jw_iconst (p := 40) rfl jM28 jq28_39 ?_
      exact jw_iret jM28 jq28_40 (fun z => absurd z (by decide)) h3
    · have h3 := h2.2 c3
      refine jiL1 (p := 12) rfl jM28 jq28_11 ?_
      refine jaL0 (p := 13) rfl jM28 jq28_12 ?_
      refine jw_getP (p := 16) (i := 11) rfl jM28 jq28_13 rfl hl0.ob je_3_11 rfl ?_
      obtain ⟨c4, h4⟩ := h3
      refine jw_alen (p := 17) rfl jM28 jq28_16 (c4 c2) (by decide) ?_
      refine jw_ic (p := 20) rfl jM28 jq28_17 (jc_ge hl1 (jb_rn rfl)) (fun c5 => ?_) (fun c5 => ?_)
      · have h5 := h4.1 c5
        refine jw_iconst (p := 25) rfl jM28 jq28_24 ?_
        refine jiS2 (p := 26) rfl jM28 jq28_25 ?_
        refine jiL2 (p := 27) rfl jM28 jq28_26 ?_
        refine jw_if (p := 30) rfl jM28 jq28_27 (jc_eq (jb_rn rfl) jb_r0) (fun _ => ?_) (fun z => absurd (by decide) z)
        refine jw_iconst (p := 40) rfl jM28 jq28_39 ?_
        exact jw_iret jM28 jq28_40 (fun z => absurd z (by decide)) h5
      · have h5 := h4.2 c5
        refine jw_iconst (p := 21) rfl jM28 jq28_20 ?_
        refine jw_goto jM28 jq28_21 ?_
        refine jiS2 (p := 26) rfl jM28 jq28_25 ?_
        refine jiL2 (p := 27) rfl jM28 jq28_26 ?_
        refine jw_if (p := 30) rfl jM28 jq28_27 (jc_eq (jb_rn rfl) jb_r0) (fun z => absurd z (by decide)) (fun _ => ?_)
        refine jaL0 (p := 31) rfl jM28 jq28_30 ?_
        refine jw_getP (p := 34) (i := 11) rfl jM28 jq28_31 rfl hl0.ob je_3_11 rfl ?_
        obtain ⟨c6, h6⟩ := h5
        refine jiL1 (p := 35) rfl jM28 jq28_34 ?_
        obtain ⟨c7, h7⟩ := h6
        refine jw_iald (p := 36) rfl jM28 jq28_35 (c6 c2) c7.1 c7.2 ?_
        refine jw_goto jM28 jq28_36 ?_
        exact jw_iret jM28 jq28_40 (fun z => absurd z (by decide)) h7
-- 29 PageLoom$LogRecord.toldFirst(I)I
theorem jk29_0 {d : Nat} {σ : ib_H} {Q : ib_O → Prop} {l0 : Nat} {l1 : Int} (hF : jb_F σ) (hl0 : jb_rc σ l0) (hl1 : jb_r l1)
    (h : (jb_p σ l0 12 ≠ 0 → jb_arr σ 100 (jb_p σ l0 12) 24) ∧ ((jb_p σ l0 12 = 0 → Q (.inl (some (jb_v 0)), σ)) ∧ (¬ (jb_p σ l0 12 = 0) → (l1 < 0 → Q (.inl (some (jb_v 0)), σ)) ∧ (¬ (l1 < 0) → (jb_p σ l0 12 ≠ 0 → jb_arr σ 100 (jb_p σ l0 12) 24) ∧ ((24 ≤ l1 → Q (.inl (some (jb_v 0)), σ)) ∧ (¬ (24 ≤ l1) → (jb_p σ l0 12 ≠ 0 → jb_arr σ 100 (jb_p σ l0 12) 24) ∧ ((0 ≤ l1 ∧ l1 < 24) ∧ (Q (.inl (some (jb_v (jb_i σ (jb_p σ l0 12) l1))), σ))))))))) :
    jb_w d 29 0 [some (.ref l0), some (jb_v l1)] [] σ Q := by
  refine jaL0 (p := 1) rfl jM29 jq29_0 ?_
  refine jw_getP (p := 4) (i := 12) rfl jM29 jq29_1 rfl hl0.ob je_3_12 rfl ?_
  obtain ⟨c1, h1⟩ := h
  refine jw_ifnull (p := 7) rfl jM29 jq29_4 (fun c2 => ?_) (fun c2 => ?_)
  · have h2 := h1.1 c2
    refine jw_iconst (p := 30) rfl jM29 jq29_29 ?_
    exact jw_iret jM29 jq29_30 (fun z => absurd z (by decide)) h2
  · have h2 := h1.2 c2
    refine jiL1 (p := 8) rfl jM29 jq29_7 ?_
    refine jw_if (p := 11) rfl jM29 jq29_8 (jc_lt hl1 jb_r0) (fun c3 => ?_) (fun c3 => ?_)
    · have h3 := h2.1 c3
      refine jw_iconst (p := 30) rfl jM29 jq29_29 ?_
      exact jw_iret jM29 jq29_30 (fun z => absurd z (by decide)) h3
    · have h3 := h2.2 c3
      refine jiL1 (p := 12) rfl jM29 jq29_11 ?_
      refine jaL0 (p := 13) rfl jM29 jq29_12 ?_
      refine jw_getP (p := 16) (i := 12) rfl jM29 jq29_13 rfl hl0.ob je_3_12 rfl ?_
      obtain ⟨c4, h4⟩ := h3
      refine jw_alen (p := 17) rfl jM29 jq29_16 (c4 c2) (by decide) ?_
      refine jw_ic (p := 20) rfl jM29 jq29_17 (jc_ge hl1 (jb_rn rfl)) (fun c5 => ?_) (fun c5 => ?_)
      · have h5 := h4.1 c5
        refine jw_iconst (p := 30) rfl jM29 jq29_29 ?_
        exact jw_iret jM29 jq29_30 (fun z => absurd z (by decide)) h5
      · have h5 := h4.2 c5
        refine jaL0 (p := 21) rfl jM29 jq29_20 ?_
        refine jw_getP (p := 24) (i := 12) rfl jM29 jq29_21 rfl hl0.ob je_3_12 rfl ?_
        obtain ⟨c6, h6⟩ := h5
        refine jiL1 (p := 25) rfl jM29 jq29_24 ?_
        obtain ⟨c7, h7⟩ := h6
        refine jw_iald (p := 26) rfl jM29 jq29_25 (c6 c2) c7.1 c7.2 ?_
        refine jw_goto jM29 jq29_26 ?_
        exact jw_iret jM29 jq29_30 (fun z => absurd z (by decide)) h7
-- 30 PageLoom$LogRecord.pageAt(I)I
theorem jk30_0 {d : Nat} {σ : ib_H} {Q : ib_O → Prop} {l0 : Nat} {l1 : Int} (hF : jb_F σ) (hl0 : jb_rc σ l0) (hl1 : jb_r l1)
    (h : (l1 < 0 → Q (.inl (some (jb_v (-1))), σ)) ∧ (¬ (l1 < 0) → (jb_i σ l0 8 ≤ l1 → Q (.inl (some (jb_v (-1))), σ)) ∧ (¬ (jb_i σ l0 8 ≤ l1) → (3 ≤ l1 → Q (.inl (some (jb_v (-1))), σ)) ∧ (¬ (3 ≤ l1) → (0 ≤ l1 ∧ l1 < 3) ∧ (Q (.inl (some (jb_v (jb_i σ (l0 + 1) l1))), σ)))))) :
    jb_w d 30 0 [some (.ref l0), some (jb_v l1)] [] σ Q := by
  refine jiL1 (p := 1) rfl jM30 jq30_0 ?_
  refine jw_if (p := 4) rfl jM30 jq30_1 (jc_lt hl1 jb_r0) (fun c1 => ?_) (fun c1 => ?_)
  · have h1 := h.1 c1
    refine jw_iconst (p := 27) rfl jM30 jq30_26 ?_
    exact jw_iret jM30 jq30_27 (fun z => absurd z (by decide)) h1
  · have h1 := h.2 c1
    refine jiL1 (p := 5) rfl jM30 jq30_4 ?_
    refine jaL0 (p := 6) rfl jM30 jq30_5 ?_
    refine jw_getI (p := 9) (i := 8) rfl jM30 jq30_6 rfl hl0.ob jn_3_8 ?_
    refine jw_ic (p := 12) rfl jM30 jq30_9 (jc_ge hl1 (jb_r_i _ _ _)) (fun c2 => ?_) (fun c2 => ?_)
    · have h2 := h1.1 c2
      refine jw_iconst (p := 27) rfl jM30 jq30_26 ?_
      exact jw_iret jM30 jq30_27 (fun z => absurd z (by decide)) h2
    · have h2 := h1.2 c2
      refine jiL1 (p := 13) rfl jM30 jq30_12 ?_
      refine jw_iconst (p := 14) rfl jM30 jq30_13 ?_
      refine jw_ic (p := 17) rfl jM30 jq30_14 (jc_ge hl1 (jb_rn rfl)) (fun c3 => ?_) (fun c3 => ?_)
      · have h3 := h2.1 c3
        refine jw_iconst (p := 27) rfl jM30 jq30_26 ?_
        exact jw_iret jM30 jq30_27 (fun z => absurd z (by decide)) h3
      · have h3 := h2.2 c3
        refine jaL0 (p := 18) rfl jM30 jq30_17 ?_
        refine jw_getP (p := 21) (i := 9) rfl jM30 jq30_18 rfl hl0.ob je_3_9 hl0.pp ?_
        refine jiL1 (p := 22) rfl jM30 jq30_21 ?_
        obtain ⟨c4, h4⟩ := h3
        refine jw_iald (p := 23) rfl jM30 jq30_22 hl0.ap c4.1 c4.2 ?_
        refine jw_goto jM30 jq30_23 ?_
        exact jw_iret jM30 jq30_27 (fun z => absurd z (by decide)) h4
-- 31 PageLoom$LogRecord.changePage(ILPageLoom$Page;)V
theorem jk31_0 {d : Nat} {σ : ib_H} {Q : ib_O → Prop} {l0 : Nat} {l1 : Int} {l2 : Nat} (hF : jb_F σ) (hl0 : jb_rc σ l0) (hl1 : jb_r l1) (hl2 : l2 ≠ 0 → jb_pg σ l2)
    (h : (l1 < 0 → (jb_i σ l0 1 = 0 → (l2 ≠ 0) ∧ (jb_w d 43 0 [some (.ref l2), some (jb_v (jb_i σ l0 3)), some (jb_v (jb_i σ l0 5)), none, none] [] σ (jb_k (d + 1) 31 44 [some (.ref l0), some (jb_v l1), some (.ref l2), some (.ref 0)] [] Q))) ∧ (¬ (jb_i σ l0 1 = 0) → (¬ jb_i σ l0 1 = 1 → (l2 ≠ 0) ∧ (Q (.inl none, jb_si σ l2 1 (jb_i σ l0 0)))) ∧ (¬ (¬ jb_i σ l0 1 = 1) → (l2 ≠ 0) ∧ (jb_w d 43 0 [some (.ref l2), some (jb_v (jb_i σ l0 3)), some (jb_v (jb_i σ l0 5)), none, none] [] σ (jb_k (d + 1) 31 44 [some (.ref l0), some (jb_v l1), some (.ref l2), some (.ref 0)] [] Q))))) ∧ (¬ (l1 < 0) → (3 ≤ l1 → (jb_i σ l0 1 = 0 → (l2 ≠ 0) ∧ (jb_w d 43 0 [some (.ref l2), some (jb_v (jb_i σ l0 3)), some (jb_v (jb_i σ l0 5)), none, none] [] σ (jb_k (d + 1) 31 44 [some (.ref l0), some (jb_v l1), some (.ref l2), some (.ref 0)] [] Q))) ∧ (¬ (jb_i σ l0 1 = 0) → (¬ jb_i σ l0 1 = 1 → (l2 ≠ 0) ∧ (Q (.inl none, jb_si σ l2 1 (jb_i σ l0 0)))) ∧ (¬ (¬ jb_i σ l0 1 = 1) → (l2 ≠ 0) ∧ (jb_w d 43 0 [some (.ref l2), some (jb_v (jb_i σ l0 3)), some (jb_v (jb_i σ l0 5)), none, none] [] σ (jb_k (d + 1) 31 44 [some (.ref l0), some (jb_v l1), some (.ref l2), some (.ref 0)] [] Q))))) ∧ (¬ (3 ≤ l1) → (0 ≤ l1 ∧ l1 < 3) ∧ ((jb_p σ (l0 + 2) l1 ≠ 0 → jb_pg σ (jb_p σ (l0 + 2) l1)) ∧ ((jb_i σ l0 1 = 0 → (l2 ≠ 0) ∧ (jb_w d 43 0 [some (.ref l2), some (jb_v (jb_i σ l0 3)), some (jb_v (jb_i σ l0 5)), none, none] [] σ (jb_k (d + 1) 31 44 [some (.ref l0), some (jb_v l1), some (.ref l2), some (.ref (jb_p σ (l0 + 2) l1))] [] Q))) ∧ (¬ (jb_i σ l0 1 = 0) → (¬ jb_i σ l0 1 = 1 → (jb_p σ (l0 + 2) l1 = 0 → (l2 ≠ 0) ∧ (Q (.inl none, jb_si σ l2 1 (jb_i σ l0 0)))) ∧ (¬ (jb_p σ (l0 + 2) l1 = 0) → (l2 ≠ 0) ∧ (jb_w d 35 0 [some (.ref l2), some (.ref (jb_p σ (l0 + 2) l1)), none] [] σ (jb_k (d + 1) 31 56 [some (.ref l0), some (jb_v l1), some (.ref l2), some (.ref (jb_p σ (l0 + 2) l1))] [] Q)))) ∧ (¬ (¬ jb_i σ l0 1 = 1) → (l2 ≠ 0) ∧ (jb_w d 43 0 [some (.ref l2), some (jb_v (jb_i σ l0 3)), some (jb_v (jb_i σ l0 5)), none, none] [] σ (jb_k (d + 1) 31 44 [some (.ref l0), some (jb_v l1), some (.ref l2), some (.ref (jb_p σ (l0 + 2) l1))] [] Q))))))))) :
    jb_w (d + 1) 31 0 [some (.ref l0), some (jb_v l1), some (.ref l2), none] [] σ Q := by
  refine jiL1 (p := 1) rfl jM31 jq31_0 ?_
  refine jw_if (p := 4) rfl jM31 jq31_1 (jc_lt hl1 jb_r0) (fun c1 => ?_) (fun c1 => ?_)
  · have h1 := h.1 c1
    refine jw_null (p := 19) rfl jM31 jq31_18 ?_
    refine jaS3 (p := 20) rfl jM31 jq31_19 ?_
    refine jaL0 (p := 21) rfl jM31 jq31_20 ?_
    refine jw_getI (p := 24) (i := 1) rfl jM31 jq31_21 rfl hl0.ob jn_3_1 ?_
    refine jw_if (p := 27) rfl jM31 jq31_24 (jc_eq (jb_r_i _ _ _) jb_r0) (fun c2 => ?_) (fun c2 => ?_)
    · have h2 := h1.1 c2
      refine jaL2 (p := 36) rfl jM31 jq31_35 ?_
      refine jaL0 (p := 37) rfl jM31 jq31_36 ?_
      refine jw_getI (p := 40) (i := 3) rfl jM31 jq31_37 rfl hl0.ob jn_3_3 ?_
      refine jaL0 (p := 41) rfl jM31 jq31_40 ?_
      refine jw_getI (p := 44) (i := 5) rfl jM31 jq31_41 rfl hl0.ob jn_3_5 ?_
      obtain ⟨c3, h3⟩ := h2
      refine jw_callV [(jb_v (jb_i σ l0 3)), (jb_v (jb_i σ l0 5))] jM31 jq31_44 rfl rfl (hl2 c3).ob rfl jM43 rfl rfl ?_
      exact h3
    · have h2 := h1.2 c2
      refine jaL0 (p := 28) rfl jM31 jq31_27 ?_
      refine jw_getI (p := 31) (i := 1) rfl jM31 jq31_28 rfl hl0.ob jn_3_1 ?_
      refine jw_iconst (p := 32) rfl jM31 jq31_31 ?_
      refine jw_ic (p := 35) rfl jM31 jq31_32 (jc_ne (jb_r_i _ _ _) (jb_rn rfl)) (fun c4 => ?_) (fun c4 => ?_)
      · have h4 := h2.1 c4
        refine jaL3 (p := 51) rfl jM31 jq31_50 ?_
        refine jw_ifnull (p := 54) rfl jM31 jq31_51 (fun _ => ?_) (fun z => absurd rfl z)
        refine jaL2 (p := 60) rfl jM31 jq31_59 ?_
        refine jaL0 (p := 61) rfl jM31 jq31_60 ?_
        refine jw_getI (p := 64) (i := 0) rfl jM31 jq31_61 rfl hl0.ob jn_3_0 ?_
        obtain ⟨c5, h5⟩ := h4
        refine jw_putI (p := 67) (i := 1) rfl jM31 jq31_64 rfl (hl2 c5).ob (Or.inl jz_4_1) ?_
        exact jw_vret jM31 jq31_67 h5
      · have h4 := h2.2 c4
        refine jaL2 (p := 36) rfl jM31 jq31_35 ?_
        refine jaL0 (p := 37) rfl jM31 jq31_36 ?_
        refine jw_getI (p := 40) (i := 3) rfl jM31 jq31_37 rfl hl0.ob jn_3_3 ?_
        refine jaL0 (p := 41) rfl jM31 jq31_40 ?_
        refine jw_getI (p := 44) (i := 5) rfl jM31 jq31_41 rfl hl0.ob jn_3_5 ?_
        obtain ⟨c6, h6⟩ := h4
        refine jw_callV [(jb_v (jb_i σ l0 3)), (jb_v (jb_i σ l0 5))] jM31 jq31_44 rfl rfl (hl2 c6).ob rfl jM43 rfl rfl ?_
        exact h6
  · have h1 := h.2 c1
    refine jiL1 (p := 5) rfl jM31 jq31_4 ?_
    refine jw_iconst (p := 6) rfl jM31 jq31_5 ?_
    refine jw_ic (p := 9) rfl jM31 jq31_6 (jc_ge hl1 (jb_rn rfl)) (fun c7 => ?_) (fun c7 => ?_)
    · have h7 := h1.1 c7
      refine jw_null (p := 19) rfl jM31 jq31_18 ?_
      refine jaS3 (p := 20) rfl jM31 jq31_19 ?_
      refine jaL0 (p := 21) rfl jM31 jq31_20 ?_
      refine jw_getI (p := 24) (i := 1) rfl jM31 jq31_21 rfl hl0.ob jn_3_1 ?_
      refine jw_if (p := 27) rfl jM31 jq31_24 (jc_eq (jb_r_i _ _ _) jb_r0) (fun c8 => ?_) (fun c8 => ?_)
      · have h8 := h7.1 c8
        refine jaL2 (p := 36) rfl jM31 jq31_35 ?_
        refine jaL0 (p := 37) rfl jM31 jq31_36 ?_
        refine jw_getI (p := 40) (i := 3) rfl jM31 jq31_37 rfl hl0.ob jn_3_3 ?_
        refine jaL0 (p := 41) rfl jM31 jq31_40 ?_
        refine jw_getI (p := 44) (i := 5) rfl jM31 jq31_41 rfl hl0.ob jn_3_5 ?_
        obtain ⟨c9, h9⟩ := h8
        refine jw_callV [(jb_v (jb_i σ l0 3)), (jb_v (jb_i σ l0 5))] jM31 jq31_44 rfl rfl (hl2 c9).ob rfl jM43 rfl rfl ?_
        exact h9
      · have h8 := h7.2 c8
        refine jaL0 (p := 28) rfl jM31 jq31_27 ?_
        refine jw_getI (p := 31) (i := 1) rfl jM31 jq31_28 rfl hl0.ob jn_3_1 ?_
        refine jw_iconst (p := 32) rfl jM31 jq31_31 ?_
        refine jw_ic (p := 35) rfl jM31 jq31_32 (jc_ne (jb_r_i _ _ _) (jb_rn rfl)) (fun c10 => ?_) (fun c10 => ?_)
        · have h10 := h8.1 c10
          refine jaL3 (p := 51) rfl jM31 jq31_50 ?_
          refine jw_ifnull (p := 54) rfl jM31 jq31_51 (fun _ => ?_) (fun z => absurd rfl z)
          refine jaL2 (p := 60) rfl jM31 jq31_59 ?_
          refine jaL0 (p := 61) rfl jM31 jq31_60 ?_
          refine jw_getI (p := 64) (i := 0) rfl jM31 jq31_61 rfl hl0.ob jn_3_0 ?_
          obtain ⟨c11, h11⟩ := h10
          refine jw_putI (p := 67) (i := 1) rfl jM31 jq31_64 rfl (hl2 c11).ob (Or.inl jz_4_1) ?_
          exact jw_vret jM31 jq31_67 h11
        · have h10 := h8.2 c10
          refine jaL2 (p := 36) rfl jM31 jq31_35 ?_
          refine jaL0 (p := 37) rfl jM31 jq31_36 ?_
          refine jw_getI (p := 40) (i := 3) rfl jM31 jq31_37 rfl hl0.ob jn_3_3 ?_
          refine jaL0 (p := 41) rfl jM31 jq31_40 ?_
          refine jw_getI (p := 44) (i := 5) rfl jM31 jq31_41 rfl hl0.ob jn_3_5 ?_
          obtain ⟨c12, h12⟩ := h10
          refine jw_callV [(jb_v (jb_i σ l0 3)), (jb_v (jb_i σ l0 5))] jM31 jq31_44 rfl rfl (hl2 c12).ob rfl jM43 rfl rfl ?_
          exact h12
    · have h7 := h1.2 c7
      refine jaL0 (p := 10) rfl jM31 jq31_9 ?_
      refine jw_getP (p := 13) (i := 10) rfl jM31 jq31_10 rfl hl0.ob je_3_10 hl0.pi ?_
      refine jiL1 (p := 14) rfl jM31 jq31_13 ?_
      obtain ⟨c13, h13⟩ := h7
      refine jw_aald (p := 15) rfl jM31 jq31_14 hl0.ai (by decide) c13.1 c13.2 rfl ?_
      obtain ⟨c14, h14⟩ := h13
      refine jw_goto jM31 jq31_15 ?_
      refine jaS3 (p := 20) rfl jM31 jq31_19 ?_
      refine jaL0 (p := 21) rfl jM31 jq31_20 ?_
      refine jw_getI (p := 24) (i := 1) rfl jM31 jq31_21 rfl hl0.ob jn_3_1 ?_
      refine jw_if (p := 27) rfl jM31 jq31_24 (jc_eq (jb_r_i _ _ _) jb_r0) (fun c15 => ?_) (fun c15 => ?_)
      · have h15 := h14.1 c15
        refine jaL2 (p := 36) rfl jM31 jq31_35 ?_
        refine jaL0 (p := 37) rfl jM31 jq31_36 ?_
        refine jw_getI (p := 40) (i := 3) rfl jM31 jq31_37 rfl hl0.ob jn_3_3 ?_
        refine jaL0 (p := 41) rfl jM31 jq31_40 ?_
        refine jw_getI (p := 44) (i := 5) rfl jM31 jq31_41 rfl hl0.ob jn_3_5 ?_
        obtain ⟨c16, h16⟩ := h15
        refine jw_callV [(jb_v (jb_i σ l0 3)), (jb_v (jb_i σ l0 5))] jM31 jq31_44 rfl rfl (hl2 c16).ob rfl jM43 rfl rfl ?_
        exact h16
      · have h15 := h14.2 c15
        refine jaL0 (p := 28) rfl jM31 jq31_27 ?_
        refine jw_getI (p := 31) (i := 1) rfl jM31 jq31_28 rfl hl0.ob jn_3_1 ?_
        refine jw_iconst (p := 32) rfl jM31 jq31_31 ?_
        refine jw_ic (p := 35) rfl jM31 jq31_32 (jc_ne (jb_r_i _ _ _) (jb_rn rfl)) (fun c17 => ?_) (fun c17 => ?_)
        · have h17 := h15.1 c17
          refine jaL3 (p := 51) rfl jM31 jq31_50 ?_
          refine jw_ifnull (p := 54) rfl jM31 jq31_51 (fun c18 => ?_) (fun c18 => ?_)
          · have h18 := h17.1 c18
            refine jaL2 (p := 60) rfl jM31 jq31_59 ?_
            refine jaL0 (p := 61) rfl jM31 jq31_60 ?_
            refine jw_getI (p := 64) (i := 0) rfl jM31 jq31_61 rfl hl0.ob jn_3_0 ?_
            obtain ⟨c19, h19⟩ := h18
            refine jw_putI (p := 67) (i := 1) rfl jM31 jq31_64 rfl (hl2 c19).ob (Or.inl jz_4_1) ?_
            exact jw_vret jM31 jq31_67 h19
          · have h18 := h17.2 c18
            refine jaL2 (p := 55) rfl jM31 jq31_54 ?_
            refine jaL3 (p := 56) rfl jM31 jq31_55 ?_
            obtain ⟨c20, h20⟩ := h18
            refine jw_callV [(.ref (jb_p σ (l0 + 2) l1))] jM31 jq31_56 rfl rfl (hl2 c20).ob rfl jM35 rfl rfl ?_
            exact h20
        · have h17 := h15.2 c17
          refine jaL2 (p := 36) rfl jM31 jq31_35 ?_
          refine jaL0 (p := 37) rfl jM31 jq31_36 ?_
          refine jw_getI (p := 40) (i := 3) rfl jM31 jq31_37 rfl hl0.ob jn_3_3 ?_
          refine jaL0 (p := 41) rfl jM31 jq31_40 ?_
          refine jw_getI (p := 44) (i := 5) rfl jM31 jq31_41 rfl hl0.ob jn_3_5 ?_
          obtain ⟨c21, h21⟩ := h17
          refine jw_callV [(jb_v (jb_i σ l0 3)), (jb_v (jb_i σ l0 5))] jM31 jq31_44 rfl rfl (hl2 c21).ob rfl jM43 rfl rfl ?_
          exact h21
theorem jk31_47 {d : Nat} {σ : ib_H} {Q : ib_O → Prop} {l0 : Nat} {l1 : Int} {l2 : Nat} (hF : jb_F σ) (hl0 : jb_rc σ l0) (hl1 : jb_r l1) (hl2 : l2 ≠ 0 → jb_pg σ l2)
    (h : (l2 ≠ 0) ∧ (Q (.inl none, jb_si σ l2 1 (jb_i σ l0 0)))) :
    jb_w d 31 47 [some (.ref l0), some (jb_v l1), some (.ref l2), some (.ref 0)] [] σ Q := by
  refine jw_goto jM31 jq31_47 ?_
  refine jaL2 (p := 60) rfl jM31 jq31_59 ?_
  refine jaL0 (p := 61) rfl jM31 jq31_60 ?_
  refine jw_getI (p := 64) (i := 0) rfl jM31 jq31_61 rfl hl0.ob jn_3_0 ?_
  obtain ⟨c1, h1⟩ := h
  refine jw_putI (p := 67) (i := 1) rfl jM31 jq31_64 rfl (hl2 c1).ob (Or.inl jz_4_1) ?_
  exact jw_vret jM31 jq31_67 h1
theorem jk31_47_2 {d : Nat} {σ : ib_H} {Q : ib_O → Prop} {l0 : Nat} {l1 : Int} {l2 : Nat} {l3 : Nat} (hF : jb_F σ) (hl0 : jb_rc σ l0) (hl1 : jb_r l1) (hl2 : l2 ≠ 0 → jb_pg σ l2) (hl3 : l3 ≠ 0 → jb_pg σ l3)
    (h : (l2 ≠ 0) ∧ (Q (.inl none, jb_si σ l2 1 (jb_i σ l0 0)))) :
    jb_w d 31 47 [some (.ref l0), some (jb_v l1), some (.ref l2), some (.ref l3)] [] σ Q := by
  refine jw_goto jM31 jq31_47 ?_
  refine jaL2 (p := 60) rfl jM31 jq31_59 ?_
  refine jaL0 (p := 61) rfl jM31 jq31_60 ?_
  refine jw_getI (p := 64) (i := 0) rfl jM31 jq31_61 rfl hl0.ob jn_3_0 ?_
  obtain ⟨c1, h1⟩ := h
  refine jw_putI (p := 67) (i := 1) rfl jM31 jq31_64 rfl (hl2 c1).ob (Or.inl jz_4_1) ?_
  exact jw_vret jM31 jq31_67 h1
theorem jk31_59 {d : Nat} {σ : ib_H} {Q : ib_O → Prop} {l0 : Nat} {l1 : Int} {l2 : Nat} {l3 : Nat} (hF : jb_F σ) (hl0 : jb_rc σ l0) (hl1 : jb_r l1) (hl2 : l2 ≠ 0 → jb_pg σ l2) (hl3 : l3 ≠ 0 → jb_pg σ l3)
    (h : (l2 ≠ 0) ∧ (Q (.inl none, jb_si σ l2 1 (jb_i σ l0 0)))) :
    jb_w d 31 59 [some (.ref l0), some (jb_v l1), some (.ref l2), some (.ref l3)] [] σ Q := by
  refine jaL2 (p := 60) rfl jM31 jq31_59 ?_
  refine jaL0 (p := 61) rfl jM31 jq31_60 ?_
  refine jw_getI (p := 64) (i := 0) rfl jM31 jq31_61 rfl hl0.ob jn_3_0 ?_
  obtain ⟨c1, h1⟩ := h
  refine jw_putI (p := 67) (i := 1) rfl jM31 jq31_64 rfl (hl2 c1).ob (Or.inl jz_4_1) ?_
  exact jw_vret jM31 jq31_67 h1
-- 19 PageLoom$Log.at(I)LPageLoom$LogRecord;
theorem jk19_0 {d : Nat} {σ : ib_H} {Q : ib_O → Prop} {l1 : Int} (hF : jb_F σ) (hl1 : jb_r l1)
    (h : (l1 < 1 → Q (.inl (some (.ref 0)), σ)) ∧ (¬ (l1 < 1) → (jb_i σ 63 4 < l1 → Q (.inl (some (.ref 0)), σ)) ∧ (¬ (jb_i σ 63 4 < l1) → (1100 < l1 → Q (.inl (some (.ref 0)), σ)) ∧ (¬ (1100 < l1) → (0 ≤ (l1 - 1) ∧ (l1 - 1) < 1100) ∧ ((jb_p σ 64 (l1 - 1) ≠ 0 → jb_rc σ (jb_p σ 64 (l1 - 1))) ∧ (Q (.inl (some (.ref (jb_p σ 64 (l1 - 1)))), σ))))))) :
    jb_w d 19 0 [some (.ref 63), some (jb_v l1)] [] σ Q := by
  refine jiL1 (p := 1) rfl jM19 jq19_0 ?_
  refine jw_iconst (p := 2) rfl jM19 jq19_1 ?_
  refine jw_ic (p := 5) rfl jM19 jq19_2 (jc_lt hl1 (jb_rn rfl)) (fun c1 => ?_) (fun c1 => ?_)
  · have h1 := h.1 c1
    refine jw_null (p := 32) rfl jM19 jq19_31 ?_
    exact jw_aret jM19 jq19_32 h1
  · have h1 := h.2 c1
    refine jiL1 (p := 6) rfl jM19 jq19_5 ?_
    refine jaL0 (p := 7) rfl jM19 jq19_6 ?_
    refine jw_getI (p := 10) (i := 4) rfl jM19 jq19_7 rfl (jo_63 hF) jn_2_4 ?_
    refine jw_ic (p := 13) rfl jM19 jq19_10 (jc_gt hl1 (jb_r_i _ _ _)) (fun c2 => ?_) (fun c2 => ?_)
    · have h2 := h1.1 c2
      refine jw_null (p := 32) rfl jM19 jq19_31 ?_
      exact jw_aret jM19 jq19_32 h2
    · have h2 := h1.2 c2
      refine jiL1 (p := 14) rfl jM19 jq19_13 ?_
      refine jw_sipush (p := 17) rfl jM19 jq19_14 (by decide) ?_
      refine jw_ic (p := 20) rfl jM19 jq19_17 (jc_gt hl1 (jb_rn rfl)) (fun c3 => ?_) (fun c3 => ?_)
      · have h3 := h2.1 c3
        refine jw_null (p := 32) rfl jM19 jq19_31 ?_
        exact jw_aret jM19 jq19_32 h3
      · have h3 := h2.2 c3
        refine jaL0 (p := 21) rfl jM19 jq19_20 ?_
        refine jw_getP (p := 24) (i := 2) (q := 64) rfl jM19 jq19_21 rfl (jo_63 hF) je_2_2 (jp_63_2 hF) ?_
        refine jiL1 (p := 25) rfl jM19 jq19_24 ?_
        refine jw_iconst (p := 26) rfl jM19 jq19_25 ?_
        refine jw_isub (p := 27) rfl jM19 jq19_26 ?_
        obtain ⟨c4, h4⟩ := h3
        refine jw_aald (p := 28) rfl jM19 jq19_27 (ja_64 hF) (by decide) c4.1 c4.2 rfl ?_
        obtain ⟨c5, h5⟩ := h4
        refine jw_goto jM19 jq19_28 ?_
        exact jw_aret jM19 jq19_32 h5
-- 20 PageLoom$Log.append(II)LPageLoom$LogRecord;
theorem jk20_0 {d : Nat} {σ : ib_H} {Q : ib_O → Prop} {l1 : Int} {l2 : Int} (hF : jb_F σ) (hl1 : jb_r l1) (hl2 : jb_r l2)
    (h : (jb_i σ 63 4 < 0 → Q (.inl (some (.ref 0)), σ)) ∧ (¬ (jb_i σ 63 4 < 0) → (jb_i σ 63 4 < 1100 → (0 ≤ (jb_i σ 63 4) ∧ (jb_i σ 63 4) < 1100) ∧ ((jb_p σ 64 (jb_i σ 63 4) ≠ 0 → jb_rc σ (jb_p σ 64 (jb_i σ 63 4))) ∧ ((¬ jb_p σ 64 (jb_i σ 63 4) = 0 → jb_w d 65 0 [some (.ref 57), some (jb_v l2), some (jb_v (jb_i (jb_si σ 63 4 ((jb_i σ 63 4) + 1)) 63 4)), none] [] (jb_si σ 63 4 ((jb_i σ 63 4) + 1)) (jb_k (d + 1) 20 77 [some (.ref 63), some (jb_v l1), some (jb_v l2), some (.ref (jb_p σ 64 (jb_i σ 63 4)))] [(jb_v l2), (jb_v l1), (jb_v (jb_i (jb_si σ 63 4 ((jb_i σ 63 4) + 1)) 63 4)), (.ref (jb_p σ 64 (jb_i σ 63 4)))] Q)) ∧ (jb_p σ 64 (jb_i σ 63 4) = 0 → jb_w (d + 1) 20 33 [some (.ref 63), some (jb_v l1), some (jb_v l2), some (.ref (jb_p σ 64 (jb_i σ 63 4)))] [] σ Q)))) ∧ (¬ (jb_i σ 63 4 < 1100) → Q (.inl (some (.ref 0)), σ)))) :
    jb_w (d + 1) 20 0 [some (.ref 63), some (jb_v l1), some (jb_v l2), none] [] σ Q := by
  refine jaL0 (p := 1) rfl jM20 jq20_0 ?_
  refine jw_getI (p := 4) (i := 4) rfl jM20 jq20_1 rfl (jo_63 hF) jn_2_4 ?_
  refine jw_if (p := 7) rfl jM20 jq20_4 (jc_lt (jb_r_i _ _ _) jb_r0) (fun c1 => ?_) (fun c1 => ?_)
  · have h1 := h.1 c1
    refine jw_null (p := 18) rfl jM20 jq20_17 ?_
    exact jw_aret jM20 jq20_18 h1
  · have h1 := h.2 c1
    refine jaL0 (p := 8) rfl jM20 jq20_7 ?_
    refine jw_getI (p := 11) (i := 4) rfl jM20 jq20_8 rfl (jo_63 hF) jn_2_4 ?_
    refine jw_sipush (p := 14) rfl jM20 jq20_11 (by decide) ?_
    refine jw_ic (p := 17) rfl jM20 jq20_14 (jc_lt (jb_r_i _ _ _) (jb_rn rfl)) (fun c2 => ?_) (fun c2 => ?_)
    · have h2 := h1.1 c2
      refine jaL0 (p := 20) rfl jM20 jq20_19 ?_
      refine jw_getP (p := 23) (i := 2) (q := 64) rfl jM20 jq20_20 rfl (jo_63 hF) je_2_2 (jp_63_2 hF) ?_
      refine jaL0 (p := 24) rfl jM20 jq20_23 ?_
      refine jw_getI (p := 27) (i := 4) rfl jM20 jq20_24 rfl (jo_63 hF) jn_2_4 ?_
      obtain ⟨c3, h3⟩ := h2
      refine jw_aald (p := 28) rfl jM20 jq20_27 (ja_64 hF) (by decide) c3.1 c3.2 rfl ?_
      obtain ⟨c4, h4⟩ := h3
      refine jaS3 (p := 29) rfl jM20 jq20_28 ?_
      refine jaL3 (p := 30) rfl jM20 jq20_29 ?_
      refine jw_ifnonnull (p := 33) rfl jM20 jq20_30 (fun c5 => ?_) (fun c5 => ?_)
      · have h5 := h4.1 c5
        refine jaL0 (p := 52) rfl jM20 jq20_51 ?_
        refine jw_dupA (p := 53) rfl jM20 jq20_52 ?_
        refine jw_getI (p := 56) (i := 4) rfl jM20 jq20_53 rfl (jo_63 hF) jn_2_4 ?_
        refine jw_iconst (p := 57) rfl jM20 jq20_56 ?_
        refine jw_iadd (p := 58) rfl jM20 jq20_57 ?_
        refine jw_putI (p := 61) (i := 4) rfl jM20 jq20_58 rfl (jo_63 hF) (Or.inl jz_2_4) ?_
        refine jaL3 (p := 62) rfl jM20 jq20_61 ?_
        refine jaL0 (p := 63) rfl jM20 jq20_62 ?_
        refine jw_getI (p := 66) (i := 4) rfl jM20 jq20_63 rfl (jo_63 hF) jn_2_4 ?_
        refine jiL1 (p := 67) rfl jM20 jq20_66 ?_
        refine jiL2 (p := 68) rfl jM20 jq20_67 ?_
        refine jaL0 (p := 69) rfl jM20 jq20_68 ?_
        refine jw_getP (p := 72) (i := 1) (q := 57) rfl jM20 jq20_69 rfl (jo_63 hF) je_2_1 (jp_63_1 hF) ?_
        refine jiL2 (p := 73) rfl jM20 jq20_72 ?_
        refine jaL0 (p := 74) rfl jM20 jq20_73 ?_
        refine jw_getI (p := 77) (i := 4) rfl jM20 jq20_74 rfl (jo_63 hF) jn_2_4 ?_
        refine jw_callV [(jb_v l2), (jb_v (jb_i (jb_si σ 63 4 ((jb_i σ 63 4) + 1)) 63 4))] jM20 jq20_77 rfl rfl (jo_57 hF) rfl jM65 rfl rfl ?_
        exact h5
      · have h5 := h4.2 c5
        exact h5
    · have h2 := h1.2 c2
      refine jw_null (p := 18) rfl jM20 jq20_17 ?_
      exact jw_aret jM20 jq20_18 h2
theorem jk20_80 {d : Nat} {σ : ib_H} {Q : ib_O → Prop} {l1 : Int} {l2 : Int} {l3 : Nat} {s0 : Nat} {s1 : Int} {s2 : Int} {s3 : Int} {s4 : Int} (hF : jb_F σ) (hl1 : jb_r l1) (hl2 : jb_r l2) (hl3 : l3 ≠ 0 → jb_rc σ l3) (hs0 : s0 ≠ 0 → jb_rc σ s0) (hs1 : jb_r s1) (hs2 : jb_r s2) (hs3 : jb_r s3) (hs4 : jb_r s4)
    (h : (s0 ≠ 0) ∧ (jb_w d 25 0 [some (.ref s0), some (jb_v s1), some (jb_v s2), some (jb_v s3), some (jb_v s4)] [] σ (jb_k (d + 1) 20 80 [some (.ref 63), some (jb_v l1), some (jb_v l2), some (.ref l3)] [] Q))) :
    jb_w (d + 1) 20 80 [some (.ref 63), some (jb_v l1), some (jb_v l2), some (.ref l3)] [(jb_v s4), (jb_v s3), (jb_v s2), (jb_v s1), (.ref s0)] σ Q := by
  obtain ⟨c1, h1⟩ := h
  refine jw_callV [(jb_v s1), (jb_v s2), (jb_v s3), (jb_v s4)] jM20 jq20_80 rfl rfl (hs0 c1).ob rfl jM25 rfl rfl ?_
  exact h1
theorem jk20_40 {d : Nat} {σ : ib_H} {Q : ib_O → Prop} {l1 : Int} {l2 : Int} {l3 : Nat} {s0 : Nat} (hF : jb_F σ) (hl1 : jb_r l1) (hl2 : jb_r l2) (hl3 : l3 ≠ 0 → jb_rc σ l3) (hs0 : jb_rc σ s0)
    (h : (0 ≤ (jb_i σ 63 4) ∧ (jb_i σ 63 4) < 1100) ∧ (jb_w d 65 0 [some (.ref 57), some (jb_v l2), some (jb_v (jb_i (jb_si (jb_sp σ 64 (jb_i σ 63 4) s0) 63 4 ((jb_i (jb_sp σ 64 (jb_i σ 63 4) s0) 63 4) + 1)) 63 4)), none] [] (jb_si (jb_sp σ 64 (jb_i σ 63 4) s0) 63 4 ((jb_i (jb_sp σ 64 (jb_i σ 63 4) s0) 63 4) + 1)) (jb_k (d + 1) 20 77 [some (.ref 63), some (jb_v l1), some (jb_v l2), some (.ref s0)] [(jb_v l2), (jb_v l1), (jb_v (jb_i (jb_si (jb_sp σ 64 (jb_i σ 63 4) s0) 63 4 ((jb_i (jb_sp σ 64 (jb_i σ 63 4) s0) 63 4) + 1)) 63 4)), (.ref s0)] Q))) :
    jb_w (d + 1) 20 40 [some (.ref 63), some (jb_v l1), some (jb_v l2), some (.ref l3)] [(.ref s0)] σ Q := by
  refine jaS3 (p := 41) rfl jM20 jq20_40 ?_
  refine jaL0 (p := 42) rfl jM20 jq20_41 ?_
  refine jw_getP (p := 45) (i := 2) (q := 64) rfl jM20 jq20_42 rfl (jo_63 hF) je_2_2 (jp_63_2 hF) ?_
  refine jaL0 (p := 46) rfl jM20 jq20_45 ?_
  refine jw_getI (p := 49) (i := 4) rfl jM20 jq20_46 rfl (jo_63 hF) jn_2_4 ?_
  refine jaL3 (p := 50) rfl jM20 jq20_49 ?_
  obtain ⟨c1, h1⟩ := h
  refine jw_aast (p := 51) rfl jM20 jq20_50 (ja_64 hF) (Or.inr ⟨rfl, rfl⟩) c1.1 c1.2 (Or.inr hs0.ob) ?_
  have hF : jb_F (jb_sp σ 64 (jb_i σ 63 4) s0) := jb_F64 hF
  refine jaL0 (p := 52) rfl jM20 jq20_51 ?_
  refine jw_dupA (p := 53) rfl jM20 jq20_52 ?_
  refine jw_getI (p := 56) (i := 4) rfl jM20 jq20_53 rfl (jo_63 hF) jn_2_4 ?_
  refine jw_iconst (p := 57) rfl jM20 jq20_56 ?_
  refine jw_iadd (p := 58) rfl jM20 jq20_57 ?_
  refine jw_putI (p := 61) (i := 4) rfl jM20 jq20_58 rfl (jo_63 hF) (Or.inl jz_2_4) ?_
  refine jaL3 (p := 62) rfl jM20 jq20_61 ?_
  refine jaL0 (p := 63) rfl jM20 jq20_62 ?_
  refine jw_getI (p := 66) (i := 4) rfl jM20 jq20_63 rfl (jo_63 hF) jn_2_4 ?_
  refine jiL1 (p := 67) rfl jM20 jq20_66 ?_
  refine jiL2 (p := 68) rfl jM20 jq20_67 ?_
  refine jaL0 (p := 69) rfl jM20 jq20_68 ?_
  refine jw_getP (p := 72) (i := 1) (q := 57) rfl jM20 jq20_69 rfl (jo_63 hF) je_2_1 (jp_63_1 hF) ?_
  refine jiL2 (p := 73) rfl jM20 jq20_72 ?_
  refine jaL0 (p := 74) rfl jM20 jq20_73 ?_
  refine jw_getI (p := 77) (i := 4) rfl jM20 jq20_74 rfl (jo_63 hF) jn_2_4 ?_
  refine jw_callV [(jb_v l2), (jb_v (jb_i (jb_si (jb_sp σ 64 (jb_i σ 63 4) s0) 63 4 ((jb_i (jb_sp σ 64 (jb_i σ 63 4) s0) 63 4) + 1)) 63 4))] jM20 jq20_77 rfl rfl (jo_57 hF) rfl jM65 rfl rfl ?_
  exact h1
theorem jk20_83 {d : Nat} {σ : ib_H} {Q : ib_O → Prop} {l1 : Int} {l2 : Int} {l3 : Nat} (hF : jb_F σ) (hl1 : jb_r l1) (hl2 : jb_r l2) (hl3 : l3 ≠ 0 → jb_rc σ l3)
    (h : Q (.inl (some (.ref l3)), σ)) :
    jb_w d 20 83 [some (.ref 63), some (jb_v l1), some (jb_v l2), some (.ref l3)] [] σ Q := by
  refine jaL3 (p := 84) rfl jM20 jq20_83 ?_
  exact jw_aret jM20 jq20_84 h
theorem jk20_80_2 {d : Nat} {σ : ib_H} {Q : ib_O → Prop} {l1 : Int} {l2 : Int} {l3 : Nat} {s0 : Nat} {s1 : Int} {s2 : Int} {s3 : Int} {s4 : Int} (hF : jb_F σ) (hl1 : jb_r l1) (hl2 : jb_r l2) (hl3 : jb_rc σ l3) (hs0 : jb_rc σ s0) (hs1 : jb_r s1) (hs2 : jb_r s2) (hs3 : jb_r s3) (hs4 : jb_r s4)
    (h : jb_w d 25 0 [some (.ref s0), some (jb_v s1), some (jb_v s2), some (jb_v s3), some (jb_v s4)] [] σ (jb_k (d + 1) 20 80 [some (.ref 63), some (jb_v l1), some (jb_v l2), some (.ref l3)] [] Q)) :
    jb_w (d + 1) 20 80 [some (.ref 63), some (jb_v l1), some (jb_v l2), some (.ref l3)] [(jb_v s4), (jb_v s3), (jb_v s2), (jb_v s1), (.ref s0)] σ Q := by
  refine jw_callV [(jb_v s1), (jb_v s2), (jb_v s3), (jb_v s4)] jM20 jq20_80 rfl rfl hs0.ob rfl jM25 rfl rfl ?_
  exact h
theorem jk20_83_2 {d : Nat} {σ : ib_H} {Q : ib_O → Prop} {l1 : Int} {l2 : Int} {l3 : Nat} (hF : jb_F σ) (hl1 : jb_r l1) (hl2 : jb_r l2) (hl3 : jb_rc σ l3)
    (h : Q (.inl (some (.ref l3)), σ)) :
    jb_w d 20 83 [some (.ref 63), some (jb_v l1), some (jb_v l2), some (.ref l3)] [] σ Q := by
  refine jaL3 (p := 84) rfl jM20 jq20_83 ?_
  exact jw_aret jM20 jq20_84 h
-- 21 PageLoom$Log.cut()V
theorem jk21_0 {d : Nat} {σ : ib_H} {Q : ib_O → Prop}  (hF : jb_F σ) 
    (h : (jb_i σ 63 4 ≤ jb_i σ 3 8 → Q (.inl none, σ)) ∧ (¬ (jb_i σ 63 4 ≤ jb_i σ 3 8) → Q (.inl none, jb_si σ 63 4 (jb_i σ 3 8)))) :
    jb_w d 21 0 [some (.ref 63)] [] σ Q := by
  refine jaL0 (p := 1) rfl jM21 jq21_0 ?_
  refine jw_getI (p := 4) (i := 4) rfl jM21 jq21_1 rfl (jo_63 hF) jn_2_4 ?_
  refine jaL0 (p := 5) rfl jM21 jq21_4 ?_
  refine jw_getP (p := 8) (i := 0) (q := 3) rfl jM21 jq21_5 rfl (jo_63 hF) je_2_0 (jp_63_0 hF) ?_
  refine jw_getI (p := 11) (i := 8) rfl jM21 jq21_8 rfl (jo_3 hF) jn_1_8 ?_
  refine jw_ic (p := 14) rfl jM21 jq21_11 (jc_le (jb_r_i _ _ _) (jb_r_i _ _ _)) (fun c1 => ?_) (fun c1 => ?_)
  · have h1 := h.1 c1
    exact jw_vret jM21 jq21_25 h1
  · have h1 := h.2 c1
    refine jaL0 (p := 15) rfl jM21 jq21_14 ?_
    refine jaL0 (p := 16) rfl jM21 jq21_15 ?_
    refine jw_getP (p := 19) (i := 0) (q := 3) rfl jM21 jq21_16 rfl (jo_63 hF) je_2_0 (jp_63_0 hF) ?_
    refine jw_getI (p := 22) (i := 8) rfl jM21 jq21_19 rfl (jo_3 hF) jn_1_8 ?_
    refine jw_putI (p := 25) (i := 4) rfl jM21 jq21_22 rfl (jo_63 hF) (Or.inl jz_2_4) ?_
    exact jw_vret jM21 jq21_25 h1
-- 22 PageLoom$Log.committedValues()[I
theorem jk22_0 {d : Nat} {σ : ib_H} {Q : ib_O → Prop}  (hF : jb_F σ) 
    (h : jb_w d 22 2 [some (.ref 63), some (jb_v 0), none] [] σ Q) :
    jb_w d 22 0 [some (.ref 63), none, none] [] σ Q := by
  refine jw_iconst (p := 1) rfl jM22 jq22_0 ?_
  refine jiS1 (p := 2) rfl jM22 jq22_1 ?_
  exact h
theorem jk22_2 {d : Nat} {σ : ib_H} {Q : ib_O → Prop} {l1 : Int} (hF : jb_F σ) (hl1 : jb_r l1)
    (h : (32 ≤ l1 → jb_w d 22 30 [some (.ref 63), some (jb_v (jb_i σ 3 8)), none] [] σ Q) ∧ (¬ (32 ≤ l1) → (0 ≤ l1 ∧ l1 < 32) ∧ (jb_w d 22 2 [some (.ref 63), some (jb_v (l1 + 1)), none] [] (jb_si σ 65 l1 (-2)) Q))) :
    jb_w d 22 2 [some (.ref 63), some (jb_v l1), none] [] σ Q := by
  refine jiL1 (p := 3) rfl jM22 jq22_2 ?_
  refine jw_bipush (p := 5) rfl jM22 jq22_3 (by decide) ?_
  refine jw_ic (p := 8) rfl jM22 jq22_5 (jc_ge hl1 (jb_rn rfl)) (fun c1 => ?_) (fun c1 => ?_)
  · have h1 := h.1 c1
    refine jaL0 (p := 23) rfl jM22 jq22_22 ?_
    refine jw_getP (p := 26) (i := 0) (q := 3) rfl jM22 jq22_23 rfl (jo_63 hF) je_2_0 (jp_63_0 hF) ?_
    refine jw_getI (p := 29) (i := 8) rfl jM22 jq22_26 rfl (jo_3 hF) jn_1_8 ?_
    refine jiS1 (p := 30) rfl jM22 jq22_29 ?_
    exact h1
  · have h1 := h.2 c1
    refine jaL0 (p := 9) rfl jM22 jq22_8 ?_
    refine jw_getP (p := 12) (i := 3) (q := 65) rfl jM22 jq22_9 rfl (jo_63 hF) je_2_3 (jp_63_3 hF) ?_
    refine jiL1 (p := 13) rfl jM22 jq22_12 ?_
    refine jw_bipush (p := 15) rfl jM22 jq22_13 (by decide) ?_
    obtain ⟨c2, h2⟩ := h1
    refine jw_iast (p := 16) rfl jM22 jq22_15 (ja_65 hF) c2.1 c2.2 ?_
    refine jiI1 (p := 19) rfl jM22 jq22_16 ?_
    refine jw_goto jM22 jq22_19 ?_
    exact h2
theorem jk22_30 {d : Nat} {σ : ib_H} {Q : ib_O → Prop} {l1 : Int} (hF : jb_F σ) (hl1 : jb_r l1)
    (h : (l1 < 1 → jb_w (d + 1) 22 66 [some (.ref 63), some (jb_v 0), none] [] σ Q) ∧ (¬ (l1 < 1) → jb_w d 19 0 [some (.ref 63), some (jb_v l1)] [] σ (jb_k (d + 1) 22 37 [some (.ref 63), some (jb_v l1), none] [] Q))) :
    jb_w (d + 1) 22 30 [some (.ref 63), some (jb_v l1), none] [] σ Q := by
  refine jiL1 (p := 31) rfl jM22 jq22_30 ?_
  refine jw_iconst (p := 32) rfl jM22 jq22_31 ?_
  refine jw_ic (p := 35) rfl jM22 jq22_32 (jc_lt hl1 (jb_rn rfl)) (fun c1 => ?_) (fun c1 => ?_)
  · have h1 := h.1 c1
    refine jw_iconst (p := 65) rfl jM22 jq22_64 ?_
    refine jiS1 (p := 66) rfl jM22 jq22_65 ?_
    exact h1
  · have h1 := h.2 c1
    refine jaL0 (p := 36) rfl jM22 jq22_35 ?_
    refine jiL1 (p := 37) rfl jM22 jq22_36 ?_
    refine jw_callV [(jb_v l1)] jM22 jq22_37 rfl rfl (jo_63 hF) rfl jM19 rfl rfl ?_
    exact h1
theorem jk22_66 {d : Nat} {σ : ib_H} {Q : ib_O → Prop} {l1 : Int} (hF : jb_F σ) (hl1 : jb_r l1)
    (h : (32 ≤ l1 → Q (.inl (some (.ref 65)), σ)) ∧ (¬ (32 ≤ l1) → (0 ≤ l1 ∧ l1 < 32) ∧ ((¬ jb_i σ 65 l1 = (-2) → jb_w d 22 66 [some (.ref 63), some (jb_v (l1 + 1)), none] [] σ Q) ∧ (¬ (¬ jb_i σ 65 l1 = (-2)) → jb_w d 22 66 [some (.ref 63), some (jb_v (l1 + 1)), none] [] (jb_si σ 65 l1 (-1)) Q)))) :
    jb_w d 22 66 [some (.ref 63), some (jb_v l1), none] [] σ Q := by
  refine jiL1 (p := 67) rfl jM22 jq22_66 ?_
  refine jw_bipush (p := 69) rfl jM22 jq22_67 (by decide) ?_
  refine jw_ic (p := 72) rfl jM22 jq22_69 (jc_ge hl1 (jb_rn rfl)) (fun c1 => ?_) (fun c1 => ?_)
  · have h1 := h.1 c1
    refine jaL0 (p := 97) rfl jM22 jq22_96 ?_
    refine jw_getP (p := 100) (i := 3) (q := 65) rfl jM22 jq22_97 rfl (jo_63 hF) je_2_3 (jp_63_3 hF) ?_
    exact jw_aret jM22 jq22_100 h1
  · have h1 := h.2 c1
    refine jaL0 (p := 73) rfl jM22 jq22_72 ?_
    refine jw_getP (p := 76) (i := 3) (q := 65) rfl jM22 jq22_73 rfl (jo_63 hF) je_2_3 (jp_63_3 hF) ?_
    refine jiL1 (p := 77) rfl jM22 jq22_76 ?_
    obtain ⟨c2, h2⟩ := h1
    refine jw_iald (p := 78) rfl jM22 jq22_77 (ja_65 hF) c2.1 c2.2 ?_
    refine jw_bipush (p := 80) rfl jM22 jq22_78 (by decide) ?_
    refine jw_ic (p := 83) rfl jM22 jq22_80 (jc_ne (jb_r_i _ _ _) (jb_rn rfl)) (fun c3 => ?_) (fun c3 => ?_)
    · have h3 := h2.1 c3
      refine jiI1 (p := 93) rfl jM22 jq22_90 ?_
      refine jw_goto jM22 jq22_93 ?_
      exact h3
    · have h3 := h2.2 c3
      refine jaL0 (p := 84) rfl jM22 jq22_83 ?_
      refine jw_getP (p := 87) (i := 3) (q := 65) rfl jM22 jq22_84 rfl (jo_63 hF) je_2_3 (jp_63_3 hF) ?_
      refine jiL1 (p := 88) rfl jM22 jq22_87 ?_
      refine jw_iconst (p := 89) rfl jM22 jq22_88 ?_
      refine jw_iast (p := 90) rfl jM22 jq22_89 (ja_65 hF) c2.1 c2.2 ?_
      refine jiI1 (p := 93) rfl jM22 jq22_90 ?_
      refine jw_goto jM22 jq22_93 ?_
      exact h3
theorem jk22_40 {d : Nat} {σ : ib_H} {Q : ib_O → Prop} {l1 : Int} {s0 : Nat} (hF : jb_F σ) (hl1 : jb_r l1) (hs0 : s0 ≠ 0 → jb_rc σ s0)
    (h : (s0 = 0 → jb_w (d + 1) 22 30 [some (.ref 63), some (jb_v (l1 + (-1))), some (.ref s0)] [] σ Q) ∧ (¬ (s0 = 0) → (¬ jb_i σ s0 1 = 2 → jb_w (d + 1) 22 30 [some (.ref 63), some (jb_v (l1 + (-1))), some (.ref s0)] [] σ Q) ∧ (¬ (¬ jb_i σ s0 1 = 2) → jb_w d 23 0 [some (.ref 63), some (.ref s0), none, none, none] [] σ (jb_k (d + 1) 22 55 [some (.ref 63), some (jb_v l1), some (.ref s0)] [] Q)))) :
    jb_w (d + 1) 22 40 [some (.ref 63), some (jb_v l1), none] [(.ref s0)] σ Q := by
  refine jaS2 (p := 41) rfl jM22 jq22_40 ?_
  refine jaL2 (p := 42) rfl jM22 jq22_41 ?_
  refine jw_ifnull (p := 45) rfl jM22 jq22_42 (fun c1 => ?_) (fun c1 => ?_)
  · have h1 := h.1 c1
    refine jiI1 (p := 61) rfl jM22 jq22_58 ?_
    refine jw_goto jM22 jq22_61 ?_
    exact h1
  · have h1 := h.2 c1
    refine jaL2 (p := 46) rfl jM22 jq22_45 ?_
    refine jw_getI (p := 49) (i := 1) rfl jM22 jq22_46 rfl (hs0 c1).ob jn_3_1 ?_
    refine jw_iconst (p := 50) rfl jM22 jq22_49 ?_
    refine jw_ic (p := 53) rfl jM22 jq22_50 (jc_ne (jb_r_i _ _ _) (jb_rn rfl)) (fun c2 => ?_) (fun c2 => ?_)
    · have h2 := h1.1 c2
      refine jiI1 (p := 61) rfl jM22 jq22_58 ?_
      refine jw_goto jM22 jq22_61 ?_
      exact h2
    · have h2 := h1.2 c2
      refine jaL0 (p := 54) rfl jM22 jq22_53 ?_
      refine jaL2 (p := 55) rfl jM22 jq22_54 ?_
      refine jw_callV [(.ref s0)] jM22 jq22_55 rfl rfl (jo_63 hF) rfl jM23 rfl rfl ?_
      exact h2
theorem jk22_30_2 {d : Nat} {σ : ib_H} {Q : ib_O → Prop} {l1 : Int} {l2 : Nat} (hF : jb_F σ) (hl1 : jb_r l1) (hl2 : l2 ≠ 0 → jb_rc σ l2)
    (h : (l1 < 1 → jb_w (d + 1) 22 66 [some (.ref 63), some (jb_v 0), some (.ref l2)] [] σ Q) ∧ (¬ (l1 < 1) → jb_w d 19 0 [some (.ref 63), some (jb_v l1)] [] σ (jb_k (d + 1) 22 37 [some (.ref 63), some (jb_v l1), some (.ref l2)] [] Q))) :
    jb_w (d + 1) 22 30 [some (.ref 63), some (jb_v l1), some (.ref l2)] [] σ Q := by
  refine jiL1 (p := 31) rfl jM22 jq22_30 ?_
  refine jw_iconst (p := 32) rfl jM22 jq22_31 ?_
  refine jw_ic (p := 35) rfl jM22 jq22_32 (jc_lt hl1 (jb_rn rfl)) (fun c1 => ?_) (fun c1 => ?_)
  · have h1 := h.1 c1
    refine jw_iconst (p := 65) rfl jM22 jq22_64 ?_
    refine jiS1 (p := 66) rfl jM22 jq22_65 ?_
    exact h1
  · have h1 := h.2 c1
    refine jaL0 (p := 36) rfl jM22 jq22_35 ?_
    refine jiL1 (p := 37) rfl jM22 jq22_36 ?_
    refine jw_callV [(jb_v l1)] jM22 jq22_37 rfl rfl (jo_63 hF) rfl jM19 rfl rfl ?_
    exact h1
theorem jk22_58 {d : Nat} {σ : ib_H} {Q : ib_O → Prop} {l1 : Int} {l2 : Nat} (hF : jb_F σ) (hl1 : jb_r l1) (hl2 : l2 ≠ 0 → jb_rc σ l2)
    (h : jb_w d 22 30 [some (.ref 63), some (jb_v (l1 + (-1))), some (.ref l2)] [] σ Q) :
    jb_w d 22 58 [some (.ref 63), some (jb_v l1), some (.ref l2)] [] σ Q := by
  refine jiI1 (p := 61) rfl jM22 jq22_58 ?_
  refine jw_goto jM22 jq22_61 ?_
  exact h
theorem jk22_66_2 {d : Nat} {σ : ib_H} {Q : ib_O → Prop} {l1 : Int} {l2 : Nat} (hF : jb_F σ) (hl1 : jb_r l1) (hl2 : l2 ≠ 0 → jb_rc σ l2)
    (h : (32 ≤ l1 → Q (.inl (some (.ref 65)), σ)) ∧ (¬ (32 ≤ l1) → (0 ≤ l1 ∧ l1 < 32) ∧ ((¬ jb_i σ 65 l1 = (-2) → jb_w d 22 66 [some (.ref 63), some (jb_v (l1 + 1)), some (.ref l2)] [] σ Q) ∧ (¬ (¬ jb_i σ 65 l1 = (-2)) → jb_w d 22 66 [some (.ref 63), some (jb_v (l1 + 1)), some (.ref l2)] [] (jb_si σ 65 l1 (-1)) Q)))) :
    jb_w d 22 66 [some (.ref 63), some (jb_v l1), some (.ref l2)] [] σ Q := by
  refine jiL1 (p := 67) rfl jM22 jq22_66 ?_
  refine jw_bipush (p := 69) rfl jM22 jq22_67 (by decide) ?_
  refine jw_ic (p := 72) rfl jM22 jq22_69 (jc_ge hl1 (jb_rn rfl)) (fun c1 => ?_) (fun c1 => ?_)
  · have h1 := h.1 c1
    refine jaL0 (p := 97) rfl jM22 jq22_96 ?_
    refine jw_getP (p := 100) (i := 3) (q := 65) rfl jM22 jq22_97 rfl (jo_63 hF) je_2_3 (jp_63_3 hF) ?_
    exact jw_aret jM22 jq22_100 h1
  · have h1 := h.2 c1
    refine jaL0 (p := 73) rfl jM22 jq22_72 ?_
    refine jw_getP (p := 76) (i := 3) (q := 65) rfl jM22 jq22_73 rfl (jo_63 hF) je_2_3 (jp_63_3 hF) ?_
    refine jiL1 (p := 77) rfl jM22 jq22_76 ?_
    obtain ⟨c2, h2⟩ := h1
    refine jw_iald (p := 78) rfl jM22 jq22_77 (ja_65 hF) c2.1 c2.2 ?_
    refine jw_bipush (p := 80) rfl jM22 jq22_78 (by decide) ?_
    refine jw_ic (p := 83) rfl jM22 jq22_80 (jc_ne (jb_r_i _ _ _) (jb_rn rfl)) (fun c3 => ?_) (fun c3 => ?_)
    · have h3 := h2.1 c3
      refine jiI1 (p := 93) rfl jM22 jq22_90 ?_
      refine jw_goto jM22 jq22_93 ?_
      exact h3
    · have h3 := h2.2 c3
      refine jaL0 (p := 84) rfl jM22 jq22_83 ?_
      refine jw_getP (p := 87) (i := 3) (q := 65) rfl jM22 jq22_84 rfl (jo_63 hF) je_2_3 (jp_63_3 hF) ?_
      refine jiL1 (p := 88) rfl jM22 jq22_87 ?_
      refine jw_iconst (p := 89) rfl jM22 jq22_88 ?_
      refine jw_iast (p := 90) rfl jM22 jq22_89 (ja_65 hF) c2.1 c2.2 ?_
      refine jiI1 (p := 93) rfl jM22 jq22_90 ?_
      refine jw_goto jM22 jq22_93 ?_
      exact h3
theorem jk22_40_2 {d : Nat} {σ : ib_H} {Q : ib_O → Prop} {l1 : Int} {l2 : Nat} {s0 : Nat} (hF : jb_F σ) (hl1 : jb_r l1) (hl2 : l2 ≠ 0 → jb_rc σ l2) (hs0 : s0 ≠ 0 → jb_rc σ s0)
    (h : (s0 = 0 → jb_w (d + 1) 22 30 [some (.ref 63), some (jb_v (l1 + (-1))), some (.ref s0)] [] σ Q) ∧ (¬ (s0 = 0) → (¬ jb_i σ s0 1 = 2 → jb_w (d + 1) 22 30 [some (.ref 63), some (jb_v (l1 + (-1))), some (.ref s0)] [] σ Q) ∧ (¬ (¬ jb_i σ s0 1 = 2) → jb_w d 23 0 [some (.ref 63), some (.ref s0), none, none, none] [] σ (jb_k (d + 1) 22 55 [some (.ref 63), some (jb_v l1), some (.ref s0)] [] Q)))) :
    jb_w (d + 1) 22 40 [some (.ref 63), some (jb_v l1), some (.ref l2)] [(.ref s0)] σ Q := by
  refine jaS2 (p := 41) rfl jM22 jq22_40 ?_
  refine jaL2 (p := 42) rfl jM22 jq22_41 ?_
  refine jw_ifnull (p := 45) rfl jM22 jq22_42 (fun c1 => ?_) (fun c1 => ?_)
  · have h1 := h.1 c1
    refine jiI1 (p := 61) rfl jM22 jq22_58 ?_
    refine jw_goto jM22 jq22_61 ?_
    exact h1
  · have h1 := h.2 c1
    refine jaL2 (p := 46) rfl jM22 jq22_45 ?_
    refine jw_getI (p := 49) (i := 1) rfl jM22 jq22_46 rfl (hs0 c1).ob jn_3_1 ?_
    refine jw_iconst (p := 50) rfl jM22 jq22_49 ?_
    refine jw_ic (p := 53) rfl jM22 jq22_50 (jc_ne (jb_r_i _ _ _) (jb_rn rfl)) (fun c2 => ?_) (fun c2 => ?_)
    · have h2 := h1.1 c2
      refine jiI1 (p := 61) rfl jM22 jq22_58 ?_
      refine jw_goto jM22 jq22_61 ?_
      exact h2
    · have h2 := h1.2 c2
      refine jaL0 (p := 54) rfl jM22 jq22_53 ?_
      refine jaL2 (p := 55) rfl jM22 jq22_54 ?_
      refine jw_callV [(.ref s0)] jM22 jq22_55 rfl rfl (jo_63 hF) rfl jM23 rfl rfl ?_
      exact h2
-- 23 PageLoom$Log.believeChain(LPageLoom$LogRecord;)V
theorem jk23_0 {d : Nat} {σ : ib_H} {Q : ib_O → Prop} {l1 : Nat} (hF : jb_F σ) (hl1 : l1 ≠ 0 → jb_rc σ l1)
    (h : (l1 ≠ 0) ∧ (jb_w d 19 0 [some (.ref 63), some (jb_v (jb_i σ l1 6))] [] σ (jb_k (d + 1) 23 5 [some (.ref 63), some (.ref l1), none, none, none] [] Q))) :
    jb_w (d + 1) 23 0 [some (.ref 63), some (.ref l1), none, none, none] [] σ Q := by
  refine jaL0 (p := 1) rfl jM23 jq23_0 ?_
  refine jaL1 (p := 2) rfl jM23 jq23_1 ?_
  obtain ⟨c1, h1⟩ := h
  refine jw_getI (p := 5) (i := 6) rfl jM23 jq23_2 rfl (hl1 c1).ob jn_3_6 ?_
  refine jw_callV [(jb_v (jb_i σ l1 6))] jM23 jq23_5 rfl rfl (jo_63 hF) rfl jM19 rfl rfl ?_
  exact h1
theorem jk23_8 {d : Nat} {σ : ib_H} {Q : ib_O → Prop} {l1 : Nat} {s0 : Nat} (hF : jb_F σ) (hl1 : l1 ≠ 0 → jb_rc σ l1) (hs0 : s0 ≠ 0 → jb_rc σ s0)
    (h : jb_w d 23 11 [some (.ref 63), some (.ref l1), some (.ref s0), some (jb_v 0), none] [] σ Q) :
    jb_w d 23 8 [some (.ref 63), some (.ref l1), none, none, none] [(.ref s0)] σ Q := by
  refine jaS2 (p := 9) rfl jM23 jq23_8 ?_
  refine jw_iconst (p := 10) rfl jM23 jq23_9 ?_
  refine jiS3 (p := 11) rfl jM23 jq23_10 ?_
  exact h
theorem jk23_11 {d : Nat} {σ : ib_H} {Q : ib_O → Prop} {l1 : Nat} {l2 : Nat} {l3 : Int} (hF : jb_F σ) (hl1 : l1 ≠ 0 → jb_rc σ l1) (hl2 : l2 ≠ 0 → jb_rc σ l2) (hl3 : jb_r l3)
    (h : (1100 ≤ l3 → Q (.inl none, σ)) ∧ (¬ (1100 ≤ l3) → (l2 = 0 → Q (.inl none, σ)) ∧ (¬ (l2 = 0) → (jb_i σ l2 3 < 0 → jb_w d 19 0 [some (.ref 63), some (jb_v (jb_i σ l2 6))] [] σ (jb_k (d + 1) 23 68 [some (.ref 63), some (.ref l1), some (.ref l2), some (jb_v l3), some (jb_v (jb_i σ l2 3))] [] Q)) ∧ (¬ (jb_i σ l2 3 < 0) → (32 ≤ jb_i σ l2 3 → jb_w d 19 0 [some (.ref 63), some (jb_v (jb_i σ l2 6))] [] σ (jb_k (d + 1) 23 68 [some (.ref 63), some (.ref l1), some (.ref l2), some (jb_v l3), some (jb_v (jb_i σ l2 3))] [] Q)) ∧ (¬ (32 ≤ jb_i σ l2 3) → (0 ≤ (jb_i σ l2 3) ∧ (jb_i σ l2 3) < 32) ∧ ((¬ jb_i σ 65 (jb_i σ l2 3) = (-2) → jb_w d 19 0 [some (.ref 63), some (jb_v (jb_i σ l2 6))] [] σ (jb_k (d + 1) 23 68 [some (.ref 63), some (.ref l1), some (.ref l2), some (jb_v l3), some (jb_v (jb_i σ l2 3))] [] Q)) ∧ (¬ (¬ jb_i σ 65 (jb_i σ l2 3) = (-2)) → jb_w d 19 0 [some (.ref 63), some (jb_v (jb_i (jb_si σ 65 (jb_i σ l2 3) (jb_i σ l2 5)) l2 6))] [] (jb_si σ 65 (jb_i σ l2 3) (jb_i σ l2 5)) (jb_k (d + 1) 23 68 [some (.ref 63), some (.ref l1), some (.ref l2), some (jb_v l3), some (jb_v (jb_i σ l2 3))] [] Q)))))))) :
    jb_w (d + 1) 23 11 [some (.ref 63), some (.ref l1), some (.ref l2), some (jb_v l3), none] [] σ Q := by
  refine jiL3 (p := 12) rfl jM23 jq23_11 ?_
  refine jw_sipush (p := 15) rfl jM23 jq23_12 (by decide) ?_
  refine jw_ic (p := 18) rfl jM23 jq23_15 (jc_ge hl3 (jb_rn rfl)) (fun c1 => ?_) (fun c1 => ?_)
  · have h1 := h.1 c1
    exact jw_vret jM23 jq23_78 h1
  · have h1 := h.2 c1
    refine jaL2 (p := 19) rfl jM23 jq23_18 ?_
    refine jw_ifnull (p := 22) rfl jM23 jq23_19 (fun c2 => ?_) (fun c2 => ?_)
    · have h2 := h1.1 c2
      exact jw_vret jM23 jq23_78 h2
    · have h2 := h1.2 c2
      refine jaL2 (p := 23) rfl jM23 jq23_22 ?_
      refine jw_getI (p := 26) (i := 3) rfl jM23 jq23_23 rfl (hl2 c2).ob jn_3_3 ?_
      refine jiS4 (p := 28) rfl jM23 jq23_26 ?_
      refine jiL4 (p := 30) rfl jM23 jq23_28 ?_
      refine jw_if (p := 33) rfl jM23 jq23_30 (jc_lt (jb_r_i _ _ _) jb_r0) (fun c3 => ?_) (fun c3 => ?_)
      · have h3 := h2.1 c3
        refine jaL0 (p := 64) rfl jM23 jq23_63 ?_
        refine jaL2 (p := 65) rfl jM23 jq23_64 ?_
        refine jw_getI (p := 68) (i := 6) rfl jM23 jq23_65 rfl (hl2 c2).ob jn_3_6 ?_
        refine jw_callV [(jb_v (jb_i σ l2 6))] jM23 jq23_68 rfl rfl (jo_63 hF) rfl jM19 rfl rfl ?_
        exact h3
      · have h3 := h2.2 c3
        refine jiL4 (p := 35) rfl jM23 jq23_33 ?_
        refine jw_bipush (p := 37) rfl jM23 jq23_35 (by decide) ?_
        refine jw_ic (p := 40) rfl jM23 jq23_37 (jc_ge (jb_r_i _ _ _) (jb_rn rfl)) (fun c4 => ?_) (fun c4 => ?_)
        · have h4 := h3.1 c4
          refine jaL0 (p := 64) rfl jM23 jq23_63 ?_
          refine jaL2 (p := 65) rfl jM23 jq23_64 ?_
          refine jw_getI (p := 68) (i := 6) rfl jM23 jq23_65 rfl (hl2 c2).ob jn_3_6 ?_
          refine jw_callV [(jb_v (jb_i σ l2 6))] jM23 jq23_68 rfl rfl (jo_63 hF) rfl jM19 rfl rfl ?_
          exact h4
        · have h4 := h3.2 c4
          refine jaL0 (p := 41) rfl jM23 jq23_40 ?_
          refine jw_getP (p := 44) (i := 3) (q := 65) rfl jM23 jq23_41 rfl (jo_63 hF) je_2_3 (jp_63_3 hF) ?_
          refine jiL4 (p := 46) rfl jM23 jq23_44 ?_
          obtain ⟨c5, h5⟩ := h4
          refine jw_iald (p := 47) rfl jM23 jq23_46 (ja_65 hF) c5.1 c5.2 ?_
          refine jw_bipush (p := 49) rfl jM23 jq23_47 (by decide) ?_
          refine jw_ic (p := 52) rfl jM23 jq23_49 (jc_ne (jb_r_i _ _ _) (jb_rn rfl)) (fun c6 => ?_) (fun c6 => ?_)
          · have h6 := h5.1 c6
            refine jaL0 (p := 64) rfl jM23 jq23_63 ?_
            refine jaL2 (p := 65) rfl jM23 jq23_64 ?_
            refine jw_getI (p := 68) (i := 6) rfl jM23 jq23_65 rfl (hl2 c2).ob jn_3_6 ?_
            refine jw_callV [(jb_v (jb_i σ l2 6))] jM23 jq23_68 rfl rfl (jo_63 hF) rfl jM19 rfl rfl ?_
            exact h6
          · have h6 := h5.2 c6
            refine jaL0 (p := 53) rfl jM23 jq23_52 ?_
            refine jw_getP (p := 56) (i := 3) (q := 65) rfl jM23 jq23_53 rfl (jo_63 hF) je_2_3 (jp_63_3 hF) ?_
            refine jiL4 (p := 58) rfl jM23 jq23_56 ?_
            refine jaL2 (p := 59) rfl jM23 jq23_58 ?_
            refine jw_getI (p := 62) (i := 5) rfl jM23 jq23_59 rfl (hl2 c2).ob jn_3_5 ?_
            refine jw_iast (p := 63) rfl jM23 jq23_62 (ja_65 hF) c5.1 c5.2 ?_
            refine jaL0 (p := 64) rfl jM23 jq23_63 ?_
            refine jaL2 (p := 65) rfl jM23 jq23_64 ?_
            refine jw_getI (p := 68) (i := 6) rfl jM23 jq23_65 rfl (hl2 c2).ob jn_3_6 ?_
            refine jw_callV [(jb_v (jb_i (jb_si σ 65 (jb_i σ l2 3) (jb_i σ l2 5)) l2 6))] jM23 jq23_68 rfl rfl (jo_63 hF) rfl jM19 rfl rfl ?_
            exact h6
theorem jk23_71 {d : Nat} {σ : ib_H} {Q : ib_O → Prop} {l1 : Nat} {l2 : Nat} {l3 : Int} {l4 : Int} {s0 : Nat} (hF : jb_F σ) (hl1 : l1 ≠ 0 → jb_rc σ l1) (hl2 : l2 ≠ 0 → jb_rc σ l2) (hl3 : jb_r l3) (hl4 : jb_r l4) (hs0 : s0 ≠ 0 → jb_rc σ s0)
    (h : jb_w d 23 11 [some (.ref 63), some (.ref l1), some (.ref s0), some (jb_v (l3 + 1)), some (jb_v l4)] [] σ Q) :
    jb_w d 23 71 [some (.ref 63), some (.ref l1), some (.ref l2), some (jb_v l3), some (jb_v l4)] [(.ref s0)] σ Q := by
  refine jaS2 (p := 72) rfl jM23 jq23_71 ?_
  refine jiI3 (p := 75) rfl jM23 jq23_72 ?_
  refine jw_goto jM23 jq23_75 ?_
  exact h
theorem jk23_11_2 {d : Nat} {σ : ib_H} {Q : ib_O → Prop} {l1 : Nat} {l2 : Nat} {l3 : Int} {l4 : Int} (hF : jb_F σ) (hl1 : l1 ≠ 0 → jb_rc σ l1) (hl2 : l2 ≠ 0 → jb_rc σ l2) (hl3 : jb_r l3) (hl4 : jb_r l4)
    (h : (1100 ≤ l3 → Q (.inl none, σ)) ∧ (¬ (1100 ≤ l3) → (l2 = 0 → Q (.inl none, σ)) ∧ (¬ (l2 = 0) → (jb_i σ l2 3 < 0 → jb_w d 19 0 [some (.ref 63), some (jb_v (jb_i σ l2 6))] [] σ (jb_k (d + 1) 23 68 [some (.ref 63), some (.ref l1), some (.ref l2), some (jb_v l3), some (jb_v (jb_i σ l2 3))] [] Q)) ∧ (¬ (jb_i σ l2 3 < 0) → (32 ≤ jb_i σ l2 3 → jb_w d 19 0 [some (.ref 63), some (jb_v (jb_i σ l2 6))] [] σ (jb_k (d + 1) 23 68 [some (.ref 63), some (.ref l1), some (.ref l2), some (jb_v l3), some (jb_v (jb_i σ l2 3))] [] Q)) ∧ (¬ (32 ≤ jb_i σ l2 3) → (0 ≤ (jb_i σ l2 3) ∧ (jb_i σ l2 3) < 32) ∧ ((¬ jb_i σ 65 (jb_i σ l2 3) = (-2) → jb_w d 19 0 [some (.ref 63), some (jb_v (jb_i σ l2 6))] [] σ (jb_k (d + 1) 23 68 [some (.ref 63), some (.ref l1), some (.ref l2), some (jb_v l3), some (jb_v (jb_i σ l2 3))] [] Q)) ∧ (¬ (¬ jb_i σ 65 (jb_i σ l2 3) = (-2)) → jb_w d 19 0 [some (.ref 63), some (jb_v (jb_i (jb_si σ 65 (jb_i σ l2 3) (jb_i σ l2 5)) l2 6))] [] (jb_si σ 65 (jb_i σ l2 3) (jb_i σ l2 5)) (jb_k (d + 1) 23 68 [some (.ref 63), some (.ref l1), some (.ref l2), some (jb_v l3), some (jb_v (jb_i σ l2 3))] [] Q)))))))) :
    jb_w (d + 1) 23 11 [some (.ref 63), some (.ref l1), some (.ref l2), some (jb_v l3), some (jb_v l4)] [] σ Q := by
  refine jiL3 (p := 12) rfl jM23 jq23_11 ?_
  refine jw_sipush (p := 15) rfl jM23 jq23_12 (by decide) ?_
  refine jw_ic (p := 18) rfl jM23 jq23_15 (jc_ge hl3 (jb_rn rfl)) (fun c1 => ?_) (fun c1 => ?_)
  · have h1 := h.1 c1
    exact jw_vret jM23 jq23_78 h1
  · have h1 := h.2 c1
    refine jaL2 (p := 19) rfl jM23 jq23_18 ?_
    refine jw_ifnull (p := 22) rfl jM23 jq23_19 (fun c2 => ?_) (fun c2 => ?_)
    · have h2 := h1.1 c2
      exact jw_vret jM23 jq23_78 h2
    · have h2 := h1.2 c2
      refine jaL2 (p := 23) rfl jM23 jq23_22 ?_
      refine jw_getI (p := 26) (i := 3) rfl jM23 jq23_23 rfl (hl2 c2).ob jn_3_3 ?_
      refine jiS4 (p := 28) rfl jM23 jq23_26 ?_
      refine jiL4 (p := 30) rfl jM23 jq23_28 ?_
      refine jw_if (p := 33) rfl jM23 jq23_30 (jc_lt (jb_r_i _ _ _) jb_r0) (fun c3 => ?_) (fun c3 => ?_)
      · have h3 := h2.1 c3
        refine jaL0 (p := 64) rfl jM23 jq23_63 ?_
        refine jaL2 (p := 65) rfl jM23 jq23_64 ?_
        refine jw_getI (p := 68) (i := 6) rfl jM23 jq23_65 rfl (hl2 c2).ob jn_3_6 ?_
        refine jw_callV [(jb_v (jb_i σ l2 6))] jM23 jq23_68 rfl rfl (jo_63 hF) rfl jM19 rfl rfl ?_
        exact h3
      · have h3 := h2.2 c3
        refine jiL4 (p := 35) rfl jM23 jq23_33 ?_
        refine jw_bipush (p := 37) rfl jM23 jq23_35 (by decide) ?_
        refine jw_ic (p := 40) rfl jM23 jq23_37 (jc_ge (jb_r_i _ _ _) (jb_rn rfl)) (fun c4 => ?_) (fun c4 => ?_)
        · have h4 := h3.1 c4
          refine jaL0 (p := 64) rfl jM23 jq23_63 ?_
          refine jaL2 (p := 65) rfl jM23 jq23_64 ?_
          refine jw_getI (p := 68) (i := 6) rfl jM23 jq23_65 rfl (hl2 c2).ob jn_3_6 ?_
          refine jw_callV [(jb_v (jb_i σ l2 6))] jM23 jq23_68 rfl rfl (jo_63 hF) rfl jM19 rfl rfl ?_
          exact h4
        · have h4 := h3.2 c4
          refine jaL0 (p := 41) rfl jM23 jq23_40 ?_
          refine jw_getP (p := 44) (i := 3) (q := 65) rfl jM23 jq23_41 rfl (jo_63 hF) je_2_3 (jp_63_3 hF) ?_
          refine jiL4 (p := 46) rfl jM23 jq23_44 ?_
          obtain ⟨c5, h5⟩ := h4
          refine jw_iald (p := 47) rfl jM23 jq23_46 (ja_65 hF) c5.1 c5.2 ?_
          refine jw_bipush (p := 49) rfl jM23 jq23_47 (by decide) ?_
          refine jw_ic (p := 52) rfl jM23 jq23_49 (jc_ne (jb_r_i _ _ _) (jb_rn rfl)) (fun c6 => ?_) (fun c6 => ?_)
          · have h6 := h5.1 c6
            refine jaL0 (p := 64) rfl jM23 jq23_63 ?_
            refine jaL2 (p := 65) rfl jM23 jq23_64 ?_
            refine jw_getI (p := 68) (i := 6) rfl jM23 jq23_65 rfl (hl2 c2).ob jn_3_6 ?_
            refine jw_callV [(jb_v (jb_i σ l2 6))] jM23 jq23_68 rfl rfl (jo_63 hF) rfl jM19 rfl rfl ?_
            exact h6
          · have h6 := h5.2 c6
            refine jaL0 (p := 53) rfl jM23 jq23_52 ?_
            refine jw_getP (p := 56) (i := 3) (q := 65) rfl jM23 jq23_53 rfl (jo_63 hF) je_2_3 (jp_63_3 hF) ?_
            refine jiL4 (p := 58) rfl jM23 jq23_56 ?_
            refine jaL2 (p := 59) rfl jM23 jq23_58 ?_
            refine jw_getI (p := 62) (i := 5) rfl jM23 jq23_59 rfl (hl2 c2).ob jn_3_5 ?_
            refine jw_iast (p := 63) rfl jM23 jq23_62 (ja_65 hF) c5.1 c5.2 ?_
            refine jaL0 (p := 64) rfl jM23 jq23_63 ?_
            refine jaL2 (p := 65) rfl jM23 jq23_64 ?_
            refine jw_getI (p := 68) (i := 6) rfl jM23 jq23_65 rfl (hl2 c2).ob jn_3_6 ?_
            refine jw_callV [(jb_v (jb_i (jb_si σ 65 (jb_i σ l2 3) (jb_i σ l2 5)) l2 6))] jM23 jq23_68 rfl rfl (jo_63 hF) rfl jM19 rfl rfl ?_
            exact h6
-- 1 PageLoom$Cache.empty()V
theorem jk1_0 {d : Nat} {σ : ib_H} {Q : ib_O → Prop}  (hF : jb_F σ) 
    (h : jb_w d 1 2 [some (.ref 66), some (jb_v 0)] [] σ Q) :
    jb_w d 1 0 [some (.ref 66), none] [] σ Q := by
  refine jw_iconst (p := 1) rfl jM1 jq1_0 ?_
  refine jiS1 (p := 2) rfl jM1 jq1_1 ?_
  exact h
theorem jk1_2 {d : Nat} {σ : ib_H} {Q : ib_O → Prop} {l1 : Int} (hF : jb_F σ) (hl1 : jb_r l1)
    (h : (4 ≤ l1 → Q (.inl none, jb_si σ 66 5 0)) ∧ (¬ (4 ≤ l1) → (0 ≤ l1 ∧ l1 < 4) ∧ (jb_w d 1 2 [some (.ref 66), some (jb_v (l1 + 1))] [] (jb_si (jb_si (jb_si σ 68 l1 (-1)) 69 l1 0) 70 l1 0) Q))) :
    jb_w d 1 2 [some (.ref 66), some (jb_v l1)] [] σ Q := by
  refine jiL1 (p := 3) rfl jM1 jq1_2 ?_
  refine jw_iconst (p := 4) rfl jM1 jq1_3 ?_
  refine jw_ic (p := 7) rfl jM1 jq1_4 (jc_ge hl1 (jb_rn rfl)) (fun c1 => ?_) (fun c1 => ?_)
  · have h1 := h.1 c1
    refine jaL0 (p := 35) rfl jM1 jq1_34 ?_
    refine jw_iconst (p := 36) rfl jM1 jq1_35 ?_
    refine jw_putI (p := 39) (i := 5) rfl jM1 jq1_36 rfl (jo_66 hF) (Or.inl jz_0_5) ?_
    exact jw_vret jM1 jq1_39 h1
  · have h1 := h.2 c1
    refine jaL0 (p := 8) rfl jM1 jq1_7 ?_
    refine jw_getP (p := 11) (i := 2) (q := 68) rfl jM1 jq1_8 rfl (jo_66 hF) je_0_2 (jp_66_2 hF) ?_
    refine jiL1 (p := 12) rfl jM1 jq1_11 ?_
    refine jw_iconst (p := 13) rfl jM1 jq1_12 ?_
    obtain ⟨c2, h2⟩ := h1
    refine jw_iast (p := 14) rfl jM1 jq1_13 (ja_68 hF) c2.1 c2.2 ?_
    refine jaL0 (p := 15) rfl jM1 jq1_14 ?_
    refine jw_getP (p := 18) (i := 3) (q := 69) rfl jM1 jq1_15 rfl (jo_66 hF) je_0_3 (jp_66_3 hF) ?_
    refine jiL1 (p := 19) rfl jM1 jq1_18 ?_
    refine jw_iconst (p := 20) rfl jM1 jq1_19 ?_
    refine jw_bast (p := 21) rfl jM1 jq1_20 (ja_69 hF) c2.1 c2.2 (Or.inl rfl) ?_
    refine jaL0 (p := 22) rfl jM1 jq1_21 ?_
    refine jw_getP (p := 25) (i := 4) (q := 70) rfl jM1 jq1_22 rfl (jo_66 hF) je_0_4 (jp_66_4 hF) ?_
    refine jiL1 (p := 26) rfl jM1 jq1_25 ?_
    refine jw_iconst (p := 27) rfl jM1 jq1_26 ?_
    refine jw_iast (p := 28) rfl jM1 jq1_27 (ja_70 hF) c2.1 c2.2 ?_
    refine jiI1 (p := 31) rfl jM1 jq1_28 ?_
    refine jw_goto jM1 jq1_31 ?_
    exact h2
-- 2 PageLoom$Cache.frameOf(I)I
theorem jk2_0 {d : Nat} {σ : ib_H} {Q : ib_O → Prop} {l1 : Int} (hF : jb_F σ) (hl1 : jb_r l1)
    (h : jb_w d 2 2 [some (.ref 66), some (jb_v l1), some (jb_v 0)] [] σ Q) :
    jb_w d 2 0 [some (.ref 66), some (jb_v l1), none] [] σ Q := by
  refine jw_iconst (p := 1) rfl jM2 jq2_0 ?_
  refine jiS2 (p := 2) rfl jM2 jq2_1 ?_
  exact h
theorem jk2_2 {d : Nat} {σ : ib_H} {Q : ib_O → Prop} {l1 : Int} {l2 : Int} (hF : jb_F σ) (hl1 : jb_r l1) (hl2 : jb_r l2)
    (h : (4 ≤ l2 → Q (.inl (some (jb_v (-1))), σ)) ∧ (¬ (4 ≤ l2) → (0 ≤ l2 ∧ l2 < 4) ∧ ((¬ jb_i σ 68 l2 = l1 → jb_w d 2 2 [some (.ref 66), some (jb_v l1), some (jb_v (l2 + 1))] [] σ Q) ∧ (¬ (¬ jb_i σ 68 l2 = l1) → Q (.inl (some (jb_v l2)), σ))))) :
    jb_w d 2 2 [some (.ref 66), some (jb_v l1), some (jb_v l2)] [] σ Q := by
  refine jiL2 (p := 3) rfl jM2 jq2_2 ?_
  refine jw_iconst (p := 4) rfl jM2 jq2_3 ?_
  refine jw_ic (p := 7) rfl jM2 jq2_4 (jc_ge hl2 (jb_rn rfl)) (fun c1 => ?_) (fun c1 => ?_)
  · have h1 := h.1 c1
    refine jw_iconst (p := 26) rfl jM2 jq2_25 ?_
    exact jw_iret jM2 jq2_26 (fun z => absurd z (by decide)) h1
  · have h1 := h.2 c1
    refine jaL0 (p := 8) rfl jM2 jq2_7 ?_
    refine jw_getP (p := 11) (i := 2) (q := 68) rfl jM2 jq2_8 rfl (jo_66 hF) je_0_2 (jp_66_2 hF) ?_
    refine jiL2 (p := 12) rfl jM2 jq2_11 ?_
    obtain ⟨c2, h2⟩ := h1
    refine jw_iald (p := 13) rfl jM2 jq2_12 (ja_68 hF) c2.1 c2.2 ?_
    refine jiL1 (p := 14) rfl jM2 jq2_13 ?_
    refine jw_ic (p := 17) rfl jM2 jq2_14 (jc_ne (jb_r_i _ _ _) hl1) (fun c3 => ?_) (fun c3 => ?_)
    · have h3 := h2.1 c3
      refine jiI2 (p := 22) rfl jM2 jq2_19 ?_
      refine jw_goto jM2 jq2_22 ?_
      exact h3
    · have h3 := h2.2 c3
      refine jiL2 (p := 18) rfl jM2 jq2_17 ?_
      exact jw_iret jM2 jq2_18 (fun z => absurd z (by decide)) h3
-- 3 PageLoom$Cache.seen(I)LPageLoom$Page;
theorem jk3_0 {d : Nat} {σ : ib_H} {Q : ib_O → Prop} {l1 : Int} (hF : jb_F σ) (hl1 : jb_r l1)
    (h : (l1 < 0 → Q (.inl (some (.ref 0)), σ)) ∧ (¬ (l1 < 0) → (l1 < 24 → jb_w d 2 0 [some (.ref 66), some (jb_v l1), none] [] σ (jb_k (d + 1) 3 14 [some (.ref 66), some (jb_v l1), none] [] Q)) ∧ (¬ (l1 < 24) → Q (.inl (some (.ref 0)), σ)))) :
    jb_w (d + 1) 3 0 [some (.ref 66), some (jb_v l1), none] [] σ Q := by
  refine jiL1 (p := 1) rfl jM3 jq3_0 ?_
  refine jw_if (p := 4) rfl jM3 jq3_1 (jc_lt hl1 jb_r0) (fun c1 => ?_) (fun c1 => ?_)
  · have h1 := h.1 c1
    refine jw_null (p := 11) rfl jM3 jq3_10 ?_
    exact jw_aret jM3 jq3_11 h1
  · have h1 := h.2 c1
    refine jiL1 (p := 5) rfl jM3 jq3_4 ?_
    refine jw_bipush (p := 7) rfl jM3 jq3_5 (by decide) ?_
    refine jw_ic (p := 10) rfl jM3 jq3_7 (jc_lt hl1 (jb_rn rfl)) (fun c2 => ?_) (fun c2 => ?_)
    · have h2 := h1.1 c2
      refine jaL0 (p := 13) rfl jM3 jq3_12 ?_
      refine jiL1 (p := 14) rfl jM3 jq3_13 ?_
      refine jw_callV [(jb_v l1)] jM3 jq3_14 rfl rfl (jo_66 hF) rfl jM2 rfl rfl ?_
      exact h2
    · have h2 := h1.2 c2
      refine jw_null (p := 11) rfl jM3 jq3_10 ?_
      exact jw_aret jM3 jq3_11 h2
theorem jk3_17 {d : Nat} {σ : ib_H} {Q : ib_O → Prop} {l1 : Int} {s0 : Int} (hF : jb_F σ) (hl1 : jb_r l1) (hs0 : jb_r s0)
    (h : (s0 < 0 → jb_w d 15 0 [some (.ref 3), some (jb_v l1)] [] σ (jb_k (d + 1) 3 39 [some (.ref 66), some (jb_v l1), some (jb_v s0)] [] Q)) ∧ (¬ (s0 < 0) → (4 ≤ s0 → jb_w d 15 0 [some (.ref 3), some (jb_v l1)] [] σ (jb_k (d + 1) 3 39 [some (.ref 66), some (jb_v l1), some (jb_v s0)] [] Q)) ∧ (¬ (4 ≤ s0) → (0 ≤ s0 ∧ s0 < 4) ∧ (Q (.inl (some (.ref (71 + 2 * Int.toNat s0))), σ))))) :
    jb_w (d + 1) 3 17 [some (.ref 66), some (jb_v l1), none] [(jb_v s0)] σ Q := by
  refine jiS2 (p := 18) rfl jM3 jq3_17 ?_
  refine jiL2 (p := 19) rfl jM3 jq3_18 ?_
  refine jw_if (p := 22) rfl jM3 jq3_19 (jc_lt hs0 jb_r0) (fun c1 => ?_) (fun c1 => ?_)
  · have h1 := h.1 c1
    refine jaL0 (p := 35) rfl jM3 jq3_34 ?_
    refine jw_getP (p := 38) (i := 0) (q := 3) rfl jM3 jq3_35 rfl (jo_66 hF) je_0_0 (jp_66_0 hF) ?_
    refine jiL1 (p := 39) rfl jM3 jq3_38 ?_
    refine jw_callV [(jb_v l1)] jM3 jq3_39 rfl rfl (jo_3 hF) rfl jM15 rfl rfl ?_
    exact h1
  · have h1 := h.2 c1
    refine jiL2 (p := 23) rfl jM3 jq3_22 ?_
    refine jw_iconst (p := 24) rfl jM3 jq3_23 ?_
    refine jw_ic (p := 27) rfl jM3 jq3_24 (jc_ge hs0 (jb_rn rfl)) (fun c2 => ?_) (fun c2 => ?_)
    · have h2 := h1.1 c2
      refine jaL0 (p := 35) rfl jM3 jq3_34 ?_
      refine jw_getP (p := 38) (i := 0) (q := 3) rfl jM3 jq3_35 rfl (jo_66 hF) je_0_0 (jp_66_0 hF) ?_
      refine jiL1 (p := 39) rfl jM3 jq3_38 ?_
      refine jw_callV [(jb_v l1)] jM3 jq3_39 rfl rfl (jo_3 hF) rfl jM15 rfl rfl ?_
      exact h2
    · have h2 := h1.2 c2
      refine jaL0 (p := 28) rfl jM3 jq3_27 ?_
      refine jw_getP (p := 31) (i := 1) (q := 67) rfl jM3 jq3_28 rfl (jo_66 hF) je_0_1 (jp_66_1 hF) ?_
      refine jiL2 (p := 32) rfl jM3 jq3_31 ?_
      obtain ⟨c3, h3⟩ := h2
      refine jw_aald (p := 33) rfl jM3 jq3_32 (ja_67 hF) (Or.inl rfl) c3.1 c3.2 (jb_Fqf hF c3.1 c3.2) ?_
      exact jw_aret jM3 jq3_33 h3
theorem jk3_42 {d : Nat} {σ : ib_H} {Q : ib_O → Prop} {l1 : Int} {l2 : Int} {s0 : Int} (hF : jb_F σ) (hl1 : jb_r l1) (hl2 : jb_r l2) (hs0 : jb_r s0)
    (h : (s0 = 0 → (0 ≤ l1 ∧ l1 < 24) ∧ (Q (.inl (some (.ref (9 + 2 * Int.toNat l1))), σ))) ∧ (¬ (s0 = 0) → Q (.inl (some (.ref 0)), σ))) :
    jb_w d 3 42 [some (.ref 66), some (jb_v l1), some (jb_v l2)] [(jb_v s0)] σ Q := by
  refine jw_if (p := 45) rfl jM3 jq3_42 (jc_eq hs0 jb_r0) (fun c1 => ?_) (fun c1 => ?_)
  · have h1 := h.1 c1
    refine jaL0 (p := 50) rfl jM3 jq3_49 ?_
    refine jw_getP (p := 53) (i := 0) (q := 3) rfl jM3 jq3_50 rfl (jo_66 hF) je_0_0 (jp_66_0 hF) ?_
    refine jw_getP (p := 56) (i := 0) (q := 4) rfl jM3 jq3_53 rfl (jo_3 hF) je_1_0 (jp_3_0 hF) ?_
    refine jiL1 (p := 57) rfl jM3 jq3_56 ?_
    obtain ⟨c2, h2⟩ := h1
    refine jw_aald (p := 58) rfl jM3 jq3_57 (ja_4 hF) (Or.inl rfl) c2.1 c2.2 (jb_Fqd hF c2.1 c2.2) ?_
    exact jw_aret jM3 jq3_58 h2
  · have h1 := h.2 c1
    refine jw_null (p := 46) rfl jM3 jq3_45 ?_
    refine jw_goto jM3 jq3_46 ?_
    exact jw_aret jM3 jq3_58 h1
-- 4 PageLoom$Cache.kindSeen(I)I
theorem jk4_0 {d : Nat} {σ : ib_H} {Q : ib_O → Prop} {l1 : Int} (hF : jb_F σ) (hl1 : jb_r l1)
    (h : jb_w d 3 0 [some (.ref 66), some (jb_v l1), none] [] σ (jb_k (d + 1) 4 2 [some (.ref 66), some (jb_v l1), none] [] Q)) :
    jb_w (d + 1) 4 0 [some (.ref 66), some (jb_v l1), none] [] σ Q := by
  refine jaL0 (p := 1) rfl jM4 jq4_0 ?_
  refine jiL1 (p := 2) rfl jM4 jq4_1 ?_
  refine jw_callV [(jb_v l1)] jM4 jq4_2 rfl rfl (jo_66 hF) rfl jM3 rfl rfl ?_
  exact h
theorem jk4_5 {d : Nat} {σ : ib_H} {Q : ib_O → Prop} {l1 : Int} {s0 : Nat} (hF : jb_F σ) (hl1 : jb_r l1) (hs0 : s0 ≠ 0 → jb_pg σ s0)
    (h : (¬ s0 = 0 → Q (.inl (some (jb_v (jb_i σ s0 0))), σ)) ∧ (s0 = 0 → Q (.inl (some (jb_v (-1))), σ))) :
    jb_w d 4 5 [some (.ref 66), some (jb_v l1), none] [(.ref s0)] σ Q := by
  refine jaS2 (p := 6) rfl jM4 jq4_5 ?_
  refine jaL2 (p := 7) rfl jM4 jq4_6 ?_
  refine jw_ifnonnull (p := 10) rfl jM4 jq4_7 (fun c1 => ?_) (fun c1 => ?_)
  · have h1 := h.1 c1
    refine jaL2 (p := 15) rfl jM4 jq4_14 ?_
    refine jw_getI (p := 18) (i := 0) rfl jM4 jq4_15 rfl (hs0 c1).ob jn_4_0 ?_
    exact jw_iret jM4 jq4_18 (fun z => absurd z (by decide)) h1
  · have h1 := h.2 c1
    refine jw_iconst (p := 11) rfl jM4 jq4_10 ?_
    refine jw_goto jM4 jq4_11 ?_
    exact jw_iret jM4 jq4_18 (fun z => absurd z (by decide)) h1
-- 5 PageLoom$Cache.use(I)Z
theorem jk5_0 {d : Nat} {σ : ib_H} {Q : ib_O → Prop} {l1 : Int} (hF : jb_F σ) (hl1 : jb_r l1)
    (h : (l1 < 0 → Q (.inl (some (jb_v 0)), σ)) ∧ (¬ (l1 < 0) → (l1 < 24 → jb_w d 2 0 [some (.ref 66), some (jb_v l1), none] [] σ (jb_k (d + 1) 5 14 [some (.ref 66), some (jb_v l1), none] [] Q)) ∧ (¬ (l1 < 24) → Q (.inl (some (jb_v 0)), σ)))) :
    jb_w (d + 1) 5 0 [some (.ref 66), some (jb_v l1), none] [] σ Q := by
  refine jiL1 (p := 1) rfl jM5 jq5_0 ?_
  refine jw_if (p := 4) rfl jM5 jq5_1 (jc_lt hl1 jb_r0) (fun c1 => ?_) (fun c1 => ?_)
  · have h1 := h.1 c1
    refine jw_iconst (p := 11) rfl jM5 jq5_10 ?_
    exact jw_iret jM5 jq5_11 (fun _ => Or.inl rfl) h1
  · have h1 := h.2 c1
    refine jiL1 (p := 5) rfl jM5 jq5_4 ?_
    refine jw_bipush (p := 7) rfl jM5 jq5_5 (by decide) ?_
    refine jw_ic (p := 10) rfl jM5 jq5_7 (jc_lt hl1 (jb_rn rfl)) (fun c2 => ?_) (fun c2 => ?_)
    · have h2 := h1.1 c2
      refine jaL0 (p := 13) rfl jM5 jq5_12 ?_
      refine jiL1 (p := 14) rfl jM5 jq5_13 ?_
      refine jw_callV [(jb_v l1)] jM5 jq5_14 rfl rfl (jo_66 hF) rfl jM2 rfl rfl ?_
      exact h2
    · have h2 := h1.2 c2
      refine jw_iconst (p := 11) rfl jM5 jq5_10 ?_
      exact jw_iret jM5 jq5_11 (fun _ => Or.inl rfl) h2
theorem jk5_17 {d : Nat} {σ : ib_H} {Q : ib_O → Prop} {l1 : Int} {s0 : Int} (hF : jb_F σ) (hl1 : jb_r l1) (hs0 : jb_r s0)
    (h : (s0 < 0 → jb_w d 6 0 [some (.ref 66), none, none] [] σ (jb_k (d + 1) 5 28 [some (.ref 66), some (jb_v l1), some (jb_v s0)] [] Q)) ∧ (¬ (s0 < 0) → (s0 < 4 → (0 ≤ s0 ∧ s0 < 4) ∧ (Q (.inl (some (jb_v 1)), jb_si σ 69 s0 1))) ∧ (¬ (s0 < 4) → jb_w d 6 0 [some (.ref 66), none, none] [] σ (jb_k (d + 1) 5 28 [some (.ref 66), some (jb_v l1), some (jb_v s0)] [] Q)))) :
    jb_w (d + 1) 5 17 [some (.ref 66), some (jb_v l1), none] [(jb_v s0)] σ Q := by
  refine jiS2 (p := 18) rfl jM5 jq5_17 ?_
  refine jiL2 (p := 19) rfl jM5 jq5_18 ?_
  refine jw_if (p := 22) rfl jM5 jq5_19 (jc_lt hs0 jb_r0) (fun c1 => ?_) (fun c1 => ?_)
  · have h1 := h.1 c1
    refine jaL0 (p := 28) rfl jM5 jq5_27 ?_
    refine jw_callV [] jM5 jq5_28 rfl rfl (jo_66 hF) rfl jM6 rfl rfl ?_
    exact h1
  · have h1 := h.2 c1
    refine jiL2 (p := 23) rfl jM5 jq5_22 ?_
    refine jw_iconst (p := 24) rfl jM5 jq5_23 ?_
    refine jw_ic (p := 27) rfl jM5 jq5_24 (jc_lt hs0 (jb_rn rfl)) (fun c2 => ?_) (fun c2 => ?_)
    · have h2 := h1.1 c2
      refine jaL0 (p := 98) rfl jM5 jq5_97 ?_
      refine jw_getP (p := 101) (i := 3) (q := 69) rfl jM5 jq5_98 rfl (jo_66 hF) je_0_3 (jp_66_3 hF) ?_
      refine jiL2 (p := 102) rfl jM5 jq5_101 ?_
      refine jw_iconst (p := 103) rfl jM5 jq5_102 ?_
      obtain ⟨c3, h3⟩ := h2
      refine jw_bast (p := 104) rfl jM5 jq5_103 (ja_69 hF) c3.1 c3.2 (Or.inr rfl) ?_
      refine jw_iconst (p := 105) rfl jM5 jq5_104 ?_
      exact jw_iret jM5 jq5_105 (fun _ => Or.inr rfl) h3
    · have h2 := h1.2 c2
      refine jaL0 (p := 28) rfl jM5 jq5_27 ?_
      refine jw_callV [] jM5 jq5_28 rfl rfl (jo_66 hF) rfl jM6 rfl rfl ?_
      exact h2
theorem jk5_31 {d : Nat} {σ : ib_H} {Q : ib_O → Prop} {l1 : Int} {l2 : Int} {s0 : Int} (hF : jb_F σ) (hl1 : jb_r l1) (hl2 : jb_r l2) (hs0 : jb_r s0)
    (h : (0 ≤ s0 ∧ s0 < 4) ∧ ((jb_i σ 70 s0 ≤ 0 → (0 ≤ l1 ∧ l1 < 24) ∧ (jb_w d 35 0 [some (.ref (71 + 2 * Int.toNat s0)), some (.ref (9 + 2 * Int.toNat l1)), none] [] σ (jb_k (d + 1) 5 80 [some (.ref 66), some (jb_v l1), some (jb_v s0)] [] Q))) ∧ (¬ (jb_i σ 70 s0 ≤ 0) → jb_w d 14 0 [some (.ref 3), some (jb_v (jb_i σ 68 s0)), some (.ref (71 + 2 * Int.toNat s0)), none, none, none] [] σ (jb_k (d + 1) 5 57 [some (.ref 66), some (jb_v l1), some (jb_v s0)] [] Q)))) :
    jb_w (d + 1) 5 31 [some (.ref 66), some (jb_v l1), some (jb_v l2)] [(jb_v s0)] σ Q := by
  refine jiS2 (p := 32) rfl jM5 jq5_31 ?_
  refine jaL0 (p := 33) rfl jM5 jq5_32 ?_
  refine jw_getP (p := 36) (i := 4) (q := 70) rfl jM5 jq5_33 rfl (jo_66 hF) je_0_4 (jp_66_4 hF) ?_
  refine jiL2 (p := 37) rfl jM5 jq5_36 ?_
  obtain ⟨c1, h1⟩ := h
  refine jw_iald (p := 38) rfl jM5 jq5_37 (ja_70 hF) c1.1 c1.2 ?_
  refine jw_if (p := 41) rfl jM5 jq5_38 (jc_le (jb_r_i _ _ _) jb_r0) (fun c2 => ?_) (fun c2 => ?_)
  · have h2 := h1.1 c2
    refine jaL0 (p := 66) rfl jM5 jq5_65 ?_
    refine jw_getP (p := 69) (i := 1) (q := 67) rfl jM5 jq5_66 rfl (jo_66 hF) je_0_1 (jp_66_1 hF) ?_
    refine jiL2 (p := 70) rfl jM5 jq5_69 ?_
    refine jw_aald (p := 71) rfl jM5 jq5_70 (ja_67 hF) (Or.inl rfl) c1.1 c1.2 (jb_Fqf hF c1.1 c1.2) ?_
    refine jaL0 (p := 72) rfl jM5 jq5_71 ?_
    refine jw_getP (p := 75) (i := 0) (q := 3) rfl jM5 jq5_72 rfl (jo_66 hF) je_0_0 (jp_66_0 hF) ?_
    refine jw_getP (p := 78) (i := 0) (q := 4) rfl jM5 jq5_75 rfl (jo_3 hF) je_1_0 (jp_3_0 hF) ?_
    refine jiL1 (p := 79) rfl jM5 jq5_78 ?_
    obtain ⟨c3, h3⟩ := h2
    refine jw_aald (p := 80) rfl jM5 jq5_79 (ja_4 hF) (Or.inl rfl) c3.1 c3.2 (jb_Fqd hF c3.1 c3.2) ?_
    refine jw_callV [(.ref (9 + 2 * Int.toNat l1))] jM5 jq5_80 rfl rfl (jb_Fpgf hF c1.1 c1.2).ob rfl jM35 rfl rfl ?_
    exact h3
  · have h2 := h1.2 c2
    refine jaL0 (p := 42) rfl jM5 jq5_41 ?_
    refine jw_getP (p := 45) (i := 0) (q := 3) rfl jM5 jq5_42 rfl (jo_66 hF) je_0_0 (jp_66_0 hF) ?_
    refine jaL0 (p := 46) rfl jM5 jq5_45 ?_
    refine jw_getP (p := 49) (i := 2) (q := 68) rfl jM5 jq5_46 rfl (jo_66 hF) je_0_2 (jp_66_2 hF) ?_
    refine jiL2 (p := 50) rfl jM5 jq5_49 ?_
    refine jw_iald (p := 51) rfl jM5 jq5_50 (ja_68 hF) c1.1 c1.2 ?_
    refine jaL0 (p := 52) rfl jM5 jq5_51 ?_
    refine jw_getP (p := 55) (i := 1) (q := 67) rfl jM5 jq5_52 rfl (jo_66 hF) je_0_1 (jp_66_1 hF) ?_
    refine jiL2 (p := 56) rfl jM5 jq5_55 ?_
    refine jw_aald (p := 57) rfl jM5 jq5_56 (ja_67 hF) (Or.inl rfl) c1.1 c1.2 (jb_Fqf hF c1.1 c1.2) ?_
    refine jw_callV [(jb_v (jb_i σ 68 s0)), (.ref (71 + 2 * Int.toNat s0))] jM5 jq5_57 rfl rfl (jo_3 hF) rfl jM14 rfl rfl ?_
    exact h2
theorem jk5_83 {d : Nat} {σ : ib_H} {Q : ib_O → Prop} {l1 : Int} {l2 : Int} (hF : jb_F σ) (hl1 : jb_r l1) (hl2 : jb_r l2)
    (h : (0 ≤ l2 ∧ l2 < 4) ∧ (Q (.inl (some (jb_v 1)), jb_si (jb_si (jb_si σ 68 l2 l1) 70 l2 0) 69 l2 1))) :
    jb_w d 5 83 [some (.ref 66), some (jb_v l1), some (jb_v l2)] [] σ Q := by
  refine jaL0 (p := 84) rfl jM5 jq5_83 ?_
  refine jw_getP (p := 87) (i := 2) (q := 68) rfl jM5 jq5_84 rfl (jo_66 hF) je_0_2 (jp_66_2 hF) ?_
  refine jiL2 (p := 88) rfl jM5 jq5_87 ?_
  refine jiL1 (p := 89) rfl jM5 jq5_88 ?_
  obtain ⟨c1, h1⟩ := h
  refine jw_iast (p := 90) rfl jM5 jq5_89 (ja_68 hF) c1.1 c1.2 ?_
  refine jaL0 (p := 91) rfl jM5 jq5_90 ?_
  refine jw_getP (p := 94) (i := 4) (q := 70) rfl jM5 jq5_91 rfl (jo_66 hF) je_0_4 (jp_66_4 hF) ?_
  refine jiL2 (p := 95) rfl jM5 jq5_94 ?_
  refine jw_iconst (p := 96) rfl jM5 jq5_95 ?_
  refine jw_iast (p := 97) rfl jM5 jq5_96 (ja_70 hF) c1.1 c1.2 ?_
  refine jaL0 (p := 98) rfl jM5 jq5_97 ?_
  refine jw_getP (p := 101) (i := 3) (q := 69) rfl jM5 jq5_98 rfl (jo_66 hF) je_0_3 (jp_66_3 hF) ?_
  refine jiL2 (p := 102) rfl jM5 jq5_101 ?_
  refine jw_iconst (p := 103) rfl jM5 jq5_102 ?_
  refine jw_bast (p := 104) rfl jM5 jq5_103 (ja_69 hF) c1.1 c1.2 (Or.inr rfl) ?_
  refine jw_iconst (p := 105) rfl jM5 jq5_104 ?_
  exact jw_iret jM5 jq5_105 (fun _ => Or.inr rfl) h1
theorem jk5_60 {d : Nat} {σ : ib_H} {Q : ib_O → Prop} {l1 : Int} {l2 : Int} {s0 : Int} (hF : jb_F σ) (hl1 : jb_r l1) (hl2 : jb_r l2) (hs0 : jb_r s0)
    (h : (¬ s0 = 0 → (0 ≤ l2 ∧ l2 < 4) ∧ ((0 ≤ l1 ∧ l1 < 24) ∧ (jb_w d 35 0 [some (.ref (71 + 2 * Int.toNat l2)), some (.ref (9 + 2 * Int.toNat l1)), none] [] σ (jb_k (d + 1) 5 80 [some (.ref 66), some (jb_v l1), some (jb_v l2)] [] Q)))) ∧ (¬ (¬ s0 = 0) → Q (.inl (some (jb_v 0)), σ))) :
    jb_w (d + 1) 5 60 [some (.ref 66), some (jb_v l1), some (jb_v l2)] [(jb_v s0)] σ Q := by
  refine jw_if (p := 63) rfl jM5 jq5_60 (jc_ne hs0 jb_r0) (fun c1 => ?_) (fun c1 => ?_)
  · have h1 := h.1 c1
    refine jaL0 (p := 66) rfl jM5 jq5_65 ?_
    refine jw_getP (p := 69) (i := 1) (q := 67) rfl jM5 jq5_66 rfl (jo_66 hF) je_0_1 (jp_66_1 hF) ?_
    refine jiL2 (p := 70) rfl jM5 jq5_69 ?_
    obtain ⟨c2, h2⟩ := h1
    refine jw_aald (p := 71) rfl jM5 jq5_70 (ja_67 hF) (Or.inl rfl) c2.1 c2.2 (jb_Fqf hF c2.1 c2.2) ?_
    refine jaL0 (p := 72) rfl jM5 jq5_71 ?_
    refine jw_getP (p := 75) (i := 0) (q := 3) rfl jM5 jq5_72 rfl (jo_66 hF) je_0_0 (jp_66_0 hF) ?_
    refine jw_getP (p := 78) (i := 0) (q := 4) rfl jM5 jq5_75 rfl (jo_3 hF) je_1_0 (jp_3_0 hF) ?_
    refine jiL1 (p := 79) rfl jM5 jq5_78 ?_
    obtain ⟨c3, h3⟩ := h2
    refine jw_aald (p := 80) rfl jM5 jq5_79 (ja_4 hF) (Or.inl rfl) c3.1 c3.2 (jb_Fqd hF c3.1 c3.2) ?_
    refine jw_callV [(.ref (9 + 2 * Int.toNat l1))] jM5 jq5_80 rfl rfl (jb_Fpgf hF c2.1 c2.2).ob rfl jM35 rfl rfl ?_
    exact h3
  · have h1 := h.2 c1
    refine jw_iconst (p := 64) rfl jM5 jq5_63 ?_
    exact jw_iret jM5 jq5_64 (fun _ => Or.inl rfl) h1
-- 6 PageLoom$Cache.takeFrame()I
theorem jk6_0 {d : Nat} {σ : ib_H} {Q : ib_O → Prop}  (hF : jb_F σ) 
    (h : jb_w d 6 4 [some (.ref 66), some (jb_v 0), some (jb_v 0)] [] σ Q) :
    jb_w d 6 0 [some (.ref 66), none, none] [] σ Q := by
  refine jw_iconst (p := 1) rfl jM6 jq6_0 ?_
  refine jiS1 (p := 2) rfl jM6 jq6_1 ?_
  refine jw_iconst (p := 3) rfl jM6 jq6_2 ?_
  refine jiS2 (p := 4) rfl jM6 jq6_3 ?_
  exact h
theorem jk6_4 {d : Nat} {σ : ib_H} {Q : ib_O → Prop} {l1 : Int} {l2 : Int} (hF : jb_F σ) (hl1 : jb_r l1) (hl2 : jb_r l2)
    (h : (4 < l2 → Q (.inl (some (jb_v l1)), σ)) ∧ (¬ (4 < l2) → (jb_i σ 66 5 < 0 → (jb_i (jb_si σ 66 5 ((((0 : Int) + 1) : Int) % 4)) 68 0 = (-1) → Q (.inl (some (jb_v 0)), jb_si σ 66 5 ((((0 : Int) + 1) : Int) % 4))) ∧ (¬ (jb_i (jb_si σ 66 5 ((((0 : Int) + 1) : Int) % 4)) 68 0 = (-1)) → (¬ jb_i (jb_si σ 66 5 ((((0 : Int) + 1) : Int) % 4)) 69 0 = 0 → jb_w d 6 4 [some (.ref 66), some (jb_v 0), some (jb_v (l2 + 1))] [] (jb_si (jb_si σ 66 5 ((((0 : Int) + 1) : Int) % 4)) 69 0 0) Q) ∧ (¬ (¬ jb_i (jb_si σ 66 5 ((((0 : Int) + 1) : Int) % 4)) 69 0 = 0) → Q (.inl (some (jb_v 0)), jb_si σ 66 5 ((((0 : Int) + 1) : Int) % 4))))) ∧ (¬ (jb_i σ 66 5 < 0) → (4 ≤ jb_i σ 66 5 → (jb_i (jb_si σ 66 5 ((((0 : Int) + 1) : Int) % 4)) 68 0 = (-1) → Q (.inl (some (jb_v 0)), jb_si σ 66 5 ((((0 : Int) + 1) : Int) % 4))) ∧ (¬ (jb_i (jb_si σ 66 5 ((((0 : Int) + 1) : Int) % 4)) 68 0 = (-1)) → (¬ jb_i (jb_si σ 66 5 ((((0 : Int) + 1) : Int) % 4)) 69 0 = 0 → jb_w d 6 4 [some (.ref 66), some (jb_v 0), some (jb_v (l2 + 1))] [] (jb_si (jb_si σ 66 5 ((((0 : Int) + 1) : Int) % 4)) 69 0 0) Q) ∧ (¬ (¬ jb_i (jb_si σ 66 5 ((((0 : Int) + 1) : Int) % 4)) 69 0 = 0) → Q (.inl (some (jb_v 0)), jb_si σ 66 5 ((((0 : Int) + 1) : Int) % 4))))) ∧ (¬ (4 ≤ jb_i σ 66 5) → (jb_r ((jb_i σ 66 5) + 1)) ∧ ((0 ≤ ((jb_i σ 66 5) + 1)) ∧ ((0 ≤ (jb_i σ 66 5) ∧ (jb_i σ 66 5) < 4) ∧ ((jb_i (jb_si σ 66 5 (((jb_i σ 66 5) + 1) % 4)) 68 (jb_i σ 66 5) = (-1) → Q (.inl (some (jb_v (jb_i σ 66 5))), jb_si σ 66 5 (((jb_i σ 66 5) + 1) % 4))) ∧ (¬ (jb_i (jb_si σ 66 5 (((jb_i σ 66 5) + 1) % 4)) 68 (jb_i σ 66 5) = (-1)) → (¬ jb_i (jb_si σ 66 5 (((jb_i σ 66 5) + 1) % 4)) 69 (jb_i σ 66 5) = 0 → jb_w d 6 4 [some (.ref 66), some (jb_v (jb_i σ 66 5)), some (jb_v (l2 + 1))] [] (jb_si (jb_si σ 66 5 (((jb_i σ 66 5) + 1) % 4)) 69 (jb_i σ 66 5) 0) Q) ∧ (¬ (¬ jb_i (jb_si σ 66 5 (((jb_i σ 66 5) + 1) % 4)) 69 (jb_i σ 66 5) = 0) → Q (.inl (some (jb_v (jb_i σ 66 5))), jb_si σ 66 5 (((jb_i σ 66 5) + 1) % 4))))))))))) :
    jb_w d 6 4 [some (.ref 66), some (jb_v l1), some (jb_v l2)] [] σ Q := by
  refine jiL2 (p := 5) rfl jM6 jq6_4 ?_
  refine jw_iconst (p := 6) rfl jM6 jq6_5 ?_
  refine jw_ic (p := 9) rfl jM6 jq6_6 (jc_gt hl2 (jb_rn rfl)) (fun c1 => ?_) (fun c1 => ?_)
  · have h1 := h.1 c1
    refine jiL1 (p := 77) rfl jM6 jq6_76 ?_
    exact jw_iret jM6 jq6_77 (fun z => absurd z (by decide)) h1
  · have h1 := h.2 c1
    refine jaL0 (p := 10) rfl jM6 jq6_9 ?_
    refine jw_getI (p := 13) (i := 5) rfl jM6 jq6_10 rfl (jo_66 hF) jn_0_5 ?_
    refine jw_if (p := 16) rfl jM6 jq6_13 (jc_lt (jb_r_i _ _ _) jb_r0) (fun c2 => ?_) (fun c2 => ?_)
    · have h2 := h1.1 c2
      refine jw_iconst (p := 32) rfl jM6 jq6_31 ?_
      refine jiS1 (p := 33) rfl jM6 jq6_32 ?_
      refine jaL0 (p := 34) rfl jM6 jq6_33 ?_
      refine jiL1 (p := 35) rfl jM6 jq6_34 ?_
      refine jw_iconst (p := 36) rfl jM6 jq6_35 ?_
      refine jw_iadd (p := 37) rfl jM6 jq6_36 ?_
      refine jw_iconst (p := 38) rfl jM6 jq6_37 ?_
      refine jw_irem (p := 39) rfl jM6 jq6_38 (jb_nn rfl) (jb_rn rfl) (by decide) (jb_rn rfl) ?_
      refine jw_putI (p := 42) (i := 5) rfl jM6 jq6_39 rfl (jo_66 hF) (Or.inl jz_0_5) ?_
      refine jaL0 (p := 43) rfl jM6 jq6_42 ?_
      refine jw_getP (p := 46) (i := 2) (q := 68) rfl jM6 jq6_43 rfl (jo_66 hF) je_0_2 (jp_66_2 hF) ?_
      refine jiL1 (p := 47) rfl jM6 jq6_46 ?_
      refine jw_iald (p := 48) rfl jM6 jq6_47 (ja_68 hF) (by decide) (by decide) ?_
      refine jw_iconst (p := 49) rfl jM6 jq6_48 ?_
      refine jw_ic (p := 52) rfl jM6 jq6_49 (jc_eq (jb_r_i _ _ _) (jb_rn rfl)) (fun c3 => ?_) (fun c3 => ?_)
      · have h3 := h2.1 c3
        refine jiL1 (p := 62) rfl jM6 jq6_61 ?_
        exact jw_iret jM6 jq6_62 (fun z => absurd z (by decide)) h3
      · have h3 := h2.2 c3
        refine jaL0 (p := 53) rfl jM6 jq6_52 ?_
        refine jw_getP (p := 56) (i := 3) (q := 69) rfl jM6 jq6_53 rfl (jo_66 hF) je_0_3 (jp_66_3 hF) ?_
        refine jiL1 (p := 57) rfl jM6 jq6_56 ?_
        refine jw_bald (p := 58) rfl jM6 jq6_57 (ja_69 hF) (by decide) (by decide) ?_
        refine jw_if (p := 61) rfl jM6 jq6_58 (jc_ne (jb_r_i _ _ _) jb_r0) (fun c4 => ?_) (fun c4 => ?_)
        · have h4 := h3.1 c4
          refine jaL0 (p := 64) rfl jM6 jq6_63 ?_
          refine jw_getP (p := 67) (i := 3) (q := 69) rfl jM6 jq6_64 rfl (jo_66 hF) je_0_3 (jp_66_3 hF) ?_
          refine jiL1 (p := 68) rfl jM6 jq6_67 ?_
          refine jw_iconst (p := 69) rfl jM6 jq6_68 ?_
          refine jw_bast (p := 70) rfl jM6 jq6_69 (ja_69 hF) (by decide) (by decide) (Or.inl rfl) ?_
          refine jiI2 (p := 73) rfl jM6 jq6_70 ?_
          refine jw_goto jM6 jq6_73 ?_
          exact h4
        · have h4 := h3.2 c4
          refine jiL1 (p := 62) rfl jM6 jq6_61 ?_
          exact jw_iret jM6 jq6_62 (fun z => absurd z (by decide)) h4
    · have h2 := h1.2 c2
      refine jaL0 (p := 17) rfl jM6 jq6_16 ?_
      refine jw_getI (p := 20) (i := 5) rfl jM6 jq6_17 rfl (jo_66 hF) jn_0_5 ?_
      refine jw_iconst (p := 21) rfl jM6 jq6_20 ?_
      refine jw_ic (p := 24) rfl jM6 jq6_21 (jc_ge (jb_r_i _ _ _) (jb_rn rfl)) (fun c5 => ?_) (fun c5 => ?_)
      · have h5 := h2.1 c5
        refine jw_iconst (p := 32) rfl jM6 jq6_31 ?_
        refine jiS1 (p := 33) rfl jM6 jq6_32 ?_
        refine jaL0 (p := 34) rfl jM6 jq6_33 ?_
        refine jiL1 (p := 35) rfl jM6 jq6_34 ?_
        refine jw_iconst (p := 36) rfl jM6 jq6_35 ?_
        refine jw_iadd (p := 37) rfl jM6 jq6_36 ?_
        refine jw_iconst (p := 38) rfl jM6 jq6_37 ?_
        refine jw_irem (p := 39) rfl jM6 jq6_38 (jb_nn rfl) (jb_rn rfl) (by decide) (jb_rn rfl) ?_
        refine jw_putI (p := 42) (i := 5) rfl jM6 jq6_39 rfl (jo_66 hF) (Or.inl jz_0_5) ?_
        refine jaL0 (p := 43) rfl jM6 jq6_42 ?_
        refine jw_getP (p := 46) (i := 2) (q := 68) rfl jM6 jq6_43 rfl (jo_66 hF) je_0_2 (jp_66_2 hF) ?_
        refine jiL1 (p := 47) rfl jM6 jq6_46 ?_
        refine jw_iald (p := 48) rfl jM6 jq6_47 (ja_68 hF) (by decide) (by decide) ?_
        refine jw_iconst (p := 49) rfl jM6 jq6_48 ?_
        refine jw_ic (p := 52) rfl jM6 jq6_49 (jc_eq (jb_r_i _ _ _) (jb_rn rfl)) (fun c6 => ?_) (fun c6 => ?_)
        · have h6 := h5.1 c6
          refine jiL1 (p := 62) rfl jM6 jq6_61 ?_
          exact jw_iret jM6 jq6_62 (fun z => absurd z (by decide)) h6
        · have h6 := h5.2 c6
          refine jaL0 (p := 53) rfl jM6 jq6_52 ?_
          refine jw_getP (p := 56) (i := 3) (q := 69) rfl jM6 jq6_53 rfl (jo_66 hF) je_0_3 (jp_66_3 hF) ?_
          refine jiL1 (p := 57) rfl jM6 jq6_56 ?_
          refine jw_bald (p := 58) rfl jM6 jq6_57 (ja_69 hF) (by decide) (by decide) ?_
          refine jw_if (p := 61) rfl jM6 jq6_58 (jc_ne (jb_r_i _ _ _) jb_r0) (fun c7 => ?_) (fun c7 => ?_)
          · have h7 := h6.1 c7
            refine jaL0 (p := 64) rfl jM6 jq6_63 ?_
            refine jw_getP (p := 67) (i := 3) (q := 69) rfl jM6 jq6_64 rfl (jo_66 hF) je_0_3 (jp_66_3 hF) ?_
            refine jiL1 (p := 68) rfl jM6 jq6_67 ?_
            refine jw_iconst (p := 69) rfl jM6 jq6_68 ?_
            refine jw_bast (p := 70) rfl jM6 jq6_69 (ja_69 hF) (by decide) (by decide) (Or.inl rfl) ?_
            refine jiI2 (p := 73) rfl jM6 jq6_70 ?_
            refine jw_goto jM6 jq6_73 ?_
            exact h7
          · have h7 := h6.2 c7
            refine jiL1 (p := 62) rfl jM6 jq6_61 ?_
            exact jw_iret jM6 jq6_62 (fun z => absurd z (by decide)) h7
      · have h5 := h2.2 c5
        refine jaL0 (p := 25) rfl jM6 jq6_24 ?_
        refine jw_getI (p := 28) (i := 5) rfl jM6 jq6_25 rfl (jo_66 hF) jn_0_5 ?_
        refine jw_goto jM6 jq6_28 ?_
        refine jiS1 (p := 33) rfl jM6 jq6_32 ?_
        refine jaL0 (p := 34) rfl jM6 jq6_33 ?_
        refine jiL1 (p := 35) rfl jM6 jq6_34 ?_
        refine jw_iconst (p := 36) rfl jM6 jq6_35 ?_
        refine jw_iadd (p := 37) rfl jM6 jq6_36 ?_
        refine jw_iconst (p := 38) rfl jM6 jq6_37 ?_
        obtain ⟨c8, h8⟩ := h5
        obtain ⟨c9, h9⟩ := h8
        refine jw_irem (p := 39) rfl jM6 jq6_38 c9 c8 (by decide) (jb_rn rfl) ?_
        refine jw_putI (p := 42) (i := 5) rfl jM6 jq6_39 rfl (jo_66 hF) (Or.inl jz_0_5) ?_
        refine jaL0 (p := 43) rfl jM6 jq6_42 ?_
        refine jw_getP (p := 46) (i := 2) (q := 68) rfl jM6 jq6_43 rfl (jo_66 hF) je_0_2 (jp_66_2 hF) ?_
        refine jiL1 (p := 47) rfl jM6 jq6_46 ?_
        obtain ⟨c10, h10⟩ := h9
        refine jw_iald (p := 48) rfl jM6 jq6_47 (ja_68 hF) c10.1 c10.2 ?_
        refine jw_iconst (p := 49) rfl jM6 jq6_48 ?_
        refine jw_ic (p := 52) rfl jM6 jq6_49 (jc_eq (jb_r_i _ _ _) (jb_rn rfl)) (fun c11 => ?_) (fun c11 => ?_)
        · have h11 := h10.1 c11
          refine jiL1 (p := 62) rfl jM6 jq6_61 ?_
          exact jw_iret jM6 jq6_62 (fun z => absurd z (by decide)) h11
        · have h11 := h10.2 c11
          refine jaL0 (p := 53) rfl jM6 jq6_52 ?_
          refine jw_getP (p := 56) (i := 3) (q := 69) rfl jM6 jq6_53 rfl (jo_66 hF) je_0_3 (jp_66_3 hF) ?_
          refine jiL1 (p := 57) rfl jM6 jq6_56 ?_
          refine jw_bald (p := 58) rfl jM6 jq6_57 (ja_69 hF) c10.1 c10.2 ?_
          refine jw_if (p := 61) rfl jM6 jq6_58 (jc_ne (jb_r_i _ _ _) jb_r0) (fun c12 => ?_) (fun c12 => ?_)
          · have h12 := h11.1 c12
            refine jaL0 (p := 64) rfl jM6 jq6_63 ?_
            refine jw_getP (p := 67) (i := 3) (q := 69) rfl jM6 jq6_64 rfl (jo_66 hF) je_0_3 (jp_66_3 hF) ?_
            refine jiL1 (p := 68) rfl jM6 jq6_67 ?_
            refine jw_iconst (p := 69) rfl jM6 jq6_68 ?_
            refine jw_bast (p := 70) rfl jM6 jq6_69 (ja_69 hF) c10.1 c10.2 (Or.inl rfl) ?_
            refine jiI2 (p := 73) rfl jM6 jq6_70 ?_
            refine jw_goto jM6 jq6_73 ?_
            exact h12
          · have h12 := h11.2 c12
            refine jiL1 (p := 62) rfl jM6 jq6_61 ?_
            exact jw_iret jM6 jq6_62 (fun z => absurd z (by decide)) h12
-- 7 PageLoom$Cache.toChange(II)LPageLoom$Page;
theorem jk7_0 {d : Nat} {σ : ib_H} {Q : ib_O → Prop} {l1 : Int} {l2 : Int} (hF : jb_F σ) (hl1 : jb_r l1) (hl2 : jb_r l2)
    (h : jb_w d 2 0 [some (.ref 66), some (jb_v l1), none] [] σ (jb_k (d + 1) 7 2 [some (.ref 66), some (jb_v l1), some (jb_v l2), none] [] Q)) :
    jb_w (d + 1) 7 0 [some (.ref 66), some (jb_v l1), some (jb_v l2), none] [] σ Q := by
  refine jaL0 (p := 1) rfl jM7 jq7_0 ?_
  refine jiL1 (p := 2) rfl jM7 jq7_1 ?_
  refine jw_callV [(jb_v l1)] jM7 jq7_2 rfl rfl (jo_66 hF) rfl jM2 rfl rfl ?_
  exact h
theorem jk7_5 {d : Nat} {σ : ib_H} {Q : ib_O → Prop} {l1 : Int} {l2 : Int} {s0 : Int} (hF : jb_F σ) (hl1 : jb_r l1) (hl2 : jb_r l2) (hs0 : jb_r s0)
    (h : (s0 < 0 → Q (.inl (some (.ref 0)), σ)) ∧ (¬ (s0 < 0) → (s0 < 4 → (0 ≤ s0 ∧ s0 < 4) ∧ ((¬ jb_i σ 70 s0 = 0 → Q (.inl (some (.ref (71 + 2 * Int.toNat s0))), σ)) ∧ (¬ (¬ jb_i σ 70 s0 = 0) → Q (.inl (some (.ref (71 + 2 * Int.toNat s0))), jb_si σ 70 s0 l2)))) ∧ (¬ (s0 < 4) → Q (.inl (some (.ref 0)), σ)))) :
    jb_w d 7 5 [some (.ref 66), some (jb_v l1), some (jb_v l2), none] [(jb_v s0)] σ Q := by
  refine jiS3 (p := 6) rfl jM7 jq7_5 ?_
  refine jiL3 (p := 7) rfl jM7 jq7_6 ?_
  refine jw_if (p := 10) rfl jM7 jq7_7 (jc_lt hs0 jb_r0) (fun c1 => ?_) (fun c1 => ?_)
  · have h1 := h.1 c1
    refine jw_null (p := 16) rfl jM7 jq7_15 ?_
    exact jw_aret jM7 jq7_16 h1
  · have h1 := h.2 c1
    refine jiL3 (p := 11) rfl jM7 jq7_10 ?_
    refine jw_iconst (p := 12) rfl jM7 jq7_11 ?_
    refine jw_ic (p := 15) rfl jM7 jq7_12 (jc_lt hs0 (jb_rn rfl)) (fun c2 => ?_) (fun c2 => ?_)
    · have h2 := h1.1 c2
      refine jaL0 (p := 18) rfl jM7 jq7_17 ?_
      refine jw_getP (p := 21) (i := 4) (q := 70) rfl jM7 jq7_18 rfl (jo_66 hF) je_0_4 (jp_66_4 hF) ?_
      refine jiL3 (p := 22) rfl jM7 jq7_21 ?_
      obtain ⟨c3, h3⟩ := h2
      refine jw_iald (p := 23) rfl jM7 jq7_22 (ja_70 hF) c3.1 c3.2 ?_
      refine jw_if (p := 26) rfl jM7 jq7_23 (jc_ne (jb_r_i _ _ _) jb_r0) (fun c4 => ?_) (fun c4 => ?_)
      · have h4 := h3.1 c4
        refine jaL0 (p := 34) rfl jM7 jq7_33 ?_
        refine jw_getP (p := 37) (i := 1) (q := 67) rfl jM7 jq7_34 rfl (jo_66 hF) je_0_1 (jp_66_1 hF) ?_
        refine jiL3 (p := 38) rfl jM7 jq7_37 ?_
        refine jw_aald (p := 39) rfl jM7 jq7_38 (ja_67 hF) (Or.inl rfl) c3.1 c3.2 (jb_Fqf hF c3.1 c3.2) ?_
        exact jw_aret jM7 jq7_39 h4
      · have h4 := h3.2 c4
        refine jaL0 (p := 27) rfl jM7 jq7_26 ?_
        refine jw_getP (p := 30) (i := 4) (q := 70) rfl jM7 jq7_27 rfl (jo_66 hF) je_0_4 (jp_66_4 hF) ?_
        refine jiL3 (p := 31) rfl jM7 jq7_30 ?_
        refine jiL2 (p := 32) rfl jM7 jq7_31 ?_
        refine jw_iast (p := 33) rfl jM7 jq7_32 (ja_70 hF) c3.1 c3.2 ?_
        refine jaL0 (p := 34) rfl jM7 jq7_33 ?_
        refine jw_getP (p := 37) (i := 1) (q := 67) rfl jM7 jq7_34 rfl (jo_66 hF) je_0_1 (jp_66_1 hF) ?_
        refine jiL3 (p := 38) rfl jM7 jq7_37 ?_
        refine jw_aald (p := 39) rfl jM7 jq7_38 (ja_67 hF) (Or.inl rfl) c3.1 c3.2 (jb_Fqf hF c3.1 c3.2) ?_
        exact jw_aret jM7 jq7_39 h4
    · have h2 := h1.2 c2
      refine jw_null (p := 16) rfl jM7 jq7_15 ?_
      exact jw_aret jM7 jq7_16 h2
-- 8 PageLoom$Cache.differs(I)Z
theorem jk8_0 {d : Nat} {σ : ib_H} {Q : ib_O → Prop} {l1 : Int} (hF : jb_F σ) (hl1 : jb_r l1)
    (h : jb_w d 2 0 [some (.ref 66), some (jb_v l1), none] [] σ (jb_k (d + 1) 8 2 [some (.ref 66), some (jb_v l1), none] [] Q)) :
    jb_w (d + 1) 8 0 [some (.ref 66), some (jb_v l1), none] [] σ Q := by
  refine jaL0 (p := 1) rfl jM8 jq8_0 ?_
  refine jiL1 (p := 2) rfl jM8 jq8_1 ?_
  refine jw_callV [(jb_v l1)] jM8 jq8_2 rfl rfl (jo_66 hF) rfl jM2 rfl rfl ?_
  exact h
theorem jk8_5 {d : Nat} {σ : ib_H} {Q : ib_O → Prop} {l1 : Int} {s0 : Int} (hF : jb_F σ) (hl1 : jb_r l1) (hs0 : jb_r s0)
    (h : (s0 < 0 → Q (.inl (some (jb_v 0)), σ)) ∧ (¬ (s0 < 0) → (4 ≤ s0 → Q (.inl (some (jb_v 0)), σ)) ∧ (¬ (4 ≤ s0) → (0 ≤ s0 ∧ s0 < 4) ∧ ((jb_i σ 70 s0 ≤ 0 → Q (.inl (some (jb_v 0)), σ)) ∧ (¬ (jb_i σ 70 s0 ≤ 0) → Q (.inl (some (jb_v 1)), σ)))))) :
    jb_w d 8 5 [some (.ref 66), some (jb_v l1), none] [(jb_v s0)] σ Q := by
  refine jiS2 (p := 6) rfl jM8 jq8_5 ?_
  refine jiL2 (p := 7) rfl jM8 jq8_6 ?_
  refine jw_if (p := 10) rfl jM8 jq8_7 (jc_lt hs0 jb_r0) (fun c1 => ?_) (fun c1 => ?_)
  · have h1 := h.1 c1
    refine jw_iconst (p := 29) rfl jM8 jq8_28 ?_
    exact jw_iret jM8 jq8_29 (fun _ => Or.inl rfl) h1
  · have h1 := h.2 c1
    refine jiL2 (p := 11) rfl jM8 jq8_10 ?_
    refine jw_iconst (p := 12) rfl jM8 jq8_11 ?_
    refine jw_ic (p := 15) rfl jM8 jq8_12 (jc_ge hs0 (jb_rn rfl)) (fun c2 => ?_) (fun c2 => ?_)
    · have h2 := h1.1 c2
      refine jw_iconst (p := 29) rfl jM8 jq8_28 ?_
      exact jw_iret jM8 jq8_29 (fun _ => Or.inl rfl) h2
    · have h2 := h1.2 c2
      refine jaL0 (p := 16) rfl jM8 jq8_15 ?_
      refine jw_getP (p := 19) (i := 4) (q := 70) rfl jM8 jq8_16 rfl (jo_66 hF) je_0_4 (jp_66_4 hF) ?_
      refine jiL2 (p := 20) rfl jM8 jq8_19 ?_
      obtain ⟨c3, h3⟩ := h2
      refine jw_iald (p := 21) rfl jM8 jq8_20 (ja_70 hF) c3.1 c3.2 ?_
      refine jw_if (p := 24) rfl jM8 jq8_21 (jc_le (jb_r_i _ _ _) jb_r0) (fun c4 => ?_) (fun c4 => ?_)
      · have h4 := h3.1 c4
        refine jw_iconst (p := 29) rfl jM8 jq8_28 ?_
        exact jw_iret jM8 jq8_29 (fun _ => Or.inl rfl) h4
      · have h4 := h3.2 c4
        refine jw_iconst (p := 25) rfl jM8 jq8_24 ?_
        refine jw_goto jM8 jq8_25 ?_
        exact jw_iret jM8 jq8_29 (fun _ => Or.inr rfl) h4
-- 9 PageLoom$Cache.clean(I)Z
theorem jk9_0 {d : Nat} {σ : ib_H} {Q : ib_O → Prop} {l1 : Int} (hF : jb_F σ) (hl1 : jb_r l1)
    (h : jb_w d 2 0 [some (.ref 66), some (jb_v l1), none] [] σ (jb_k (d + 1) 9 2 [some (.ref 66), some (jb_v l1), none] [] Q)) :
    jb_w (d + 1) 9 0 [some (.ref 66), some (jb_v l1), none] [] σ Q := by
  refine jaL0 (p := 1) rfl jM9 jq9_0 ?_
  refine jiL1 (p := 2) rfl jM9 jq9_1 ?_
  refine jw_callV [(jb_v l1)] jM9 jq9_2 rfl rfl (jo_66 hF) rfl jM2 rfl rfl ?_
  exact h
theorem jk9_5 {d : Nat} {σ : ib_H} {Q : ib_O → Prop} {l1 : Int} {s0 : Int} (hF : jb_F σ) (hl1 : jb_r l1) (hs0 : jb_r s0)
    (h : (s0 < 0 → Q (.inl (some (jb_v 1)), σ)) ∧ (¬ (s0 < 0) → (s0 < 4 → (0 ≤ s0 ∧ s0 < 4) ∧ (jb_w d 14 0 [some (.ref 3), some (jb_v l1), some (.ref (71 + 2 * Int.toNat s0)), none, none, none] [] σ (jb_k (d + 1) 9 28 [some (.ref 66), some (jb_v l1), some (jb_v s0)] [] Q))) ∧ (¬ (s0 < 4) → Q (.inl (some (jb_v 1)), σ)))) :
    jb_w (d + 1) 9 5 [some (.ref 66), some (jb_v l1), none] [(jb_v s0)] σ Q := by
  refine jiS2 (p := 6) rfl jM9 jq9_5 ?_
  refine jiL2 (p := 7) rfl jM9 jq9_6 ?_
  refine jw_if (p := 10) rfl jM9 jq9_7 (jc_lt hs0 jb_r0) (fun c1 => ?_) (fun c1 => ?_)
  · have h1 := h.1 c1
    refine jw_iconst (p := 16) rfl jM9 jq9_15 ?_
    exact jw_iret jM9 jq9_16 (fun _ => Or.inr rfl) h1
  · have h1 := h.2 c1
    refine jiL2 (p := 11) rfl jM9 jq9_10 ?_
    refine jw_iconst (p := 12) rfl jM9 jq9_11 ?_
    refine jw_ic (p := 15) rfl jM9 jq9_12 (jc_lt hs0 (jb_rn rfl)) (fun c2 => ?_) (fun c2 => ?_)
    · have h2 := h1.1 c2
      refine jaL0 (p := 18) rfl jM9 jq9_17 ?_
      refine jw_getP (p := 21) (i := 0) (q := 3) rfl jM9 jq9_18 rfl (jo_66 hF) je_0_0 (jp_66_0 hF) ?_
      refine jiL1 (p := 22) rfl jM9 jq9_21 ?_
      refine jaL0 (p := 23) rfl jM9 jq9_22 ?_
      refine jw_getP (p := 26) (i := 1) (q := 67) rfl jM9 jq9_23 rfl (jo_66 hF) je_0_1 (jp_66_1 hF) ?_
      refine jiL2 (p := 27) rfl jM9 jq9_26 ?_
      obtain ⟨c3, h3⟩ := h2
      refine jw_aald (p := 28) rfl jM9 jq9_27 (ja_67 hF) (Or.inl rfl) c3.1 c3.2 (jb_Fqf hF c3.1 c3.2) ?_
      refine jw_callV [(jb_v l1), (.ref (71 + 2 * Int.toNat s0))] jM9 jq9_28 rfl rfl (jo_3 hF) rfl jM14 rfl rfl ?_
      exact h3
    · have h2 := h1.2 c2
      refine jw_iconst (p := 16) rfl jM9 jq9_15 ?_
      exact jw_iret jM9 jq9_16 (fun _ => Or.inr rfl) h2
theorem jk9_31 {d : Nat} {σ : ib_H} {Q : ib_O → Prop} {l1 : Int} {l2 : Int} {s0 : Int} (hF : jb_F σ) (hl1 : jb_r l1) (hl2 : jb_r l2) (hs0 : jb_r s0)
    (h : (¬ s0 = 0 → (0 ≤ l2 ∧ l2 < 4) ∧ (Q (.inl (some (jb_v 1)), jb_si σ 70 l2 0))) ∧ (¬ (¬ s0 = 0) → Q (.inl (some (jb_v 0)), σ))) :
    jb_w d 9 31 [some (.ref 66), some (jb_v l1), some (jb_v l2)] [(jb_v s0)] σ Q := by
  refine jw_if (p := 34) rfl jM9 jq9_31 (jc_ne hs0 jb_r0) (fun c1 => ?_) (fun c1 => ?_)
  · have h1 := h.1 c1
    refine jaL0 (p := 37) rfl jM9 jq9_36 ?_
    refine jw_getP (p := 40) (i := 4) (q := 70) rfl jM9 jq9_37 rfl (jo_66 hF) je_0_4 (jp_66_4 hF) ?_
    refine jiL2 (p := 41) rfl jM9 jq9_40 ?_
    refine jw_iconst (p := 42) rfl jM9 jq9_41 ?_
    obtain ⟨c2, h2⟩ := h1
    refine jw_iast (p := 43) rfl jM9 jq9_42 (ja_70 hF) c2.1 c2.2 ?_
    refine jw_iconst (p := 44) rfl jM9 jq9_43 ?_
    exact jw_iret jM9 jq9_44 (fun _ => Or.inr rfl) h2
  · have h1 := h.2 c1
    refine jw_iconst (p := 35) rfl jM9 jq9_34 ?_
    exact jw_iret jM9 jq9_35 (fun _ => Or.inl rfl) h1
-- 10 PageLoom$Cache.tellDiffering(LPageLoom$LogRecord;)V
theorem jk10_0 {d : Nat} {σ : ib_H} {Q : ib_O → Prop} {l1 : Nat} (hF : jb_F σ) (hl1 : l1 ≠ 0 → jb_rc σ l1)
    (h : (l1 ≠ 0) ∧ ((jb_p σ l1 12 ≠ 0 → jb_arr σ 100 (jb_p σ l1 12) 24) ∧ ((¬ jb_p σ l1 12 = 0 → jb_w d 10 17 [some (.ref 66), some (.ref l1), some (jb_v 0), none] [] σ Q) ∧ (jb_p σ l1 12 = 0 → jb_w d 10 10 [some (.ref 66), some (.ref l1), none, none] [(jb_v 24), (.ref l1)] σ Q)))) :
    jb_w d 10 0 [some (.ref 66), some (.ref l1), none, none] [] σ Q := by
  refine jaL1 (p := 1) rfl jM10 jq10_0 ?_
  obtain ⟨c1, h1⟩ := h
  refine jw_getP (p := 4) (i := 12) rfl jM10 jq10_1 rfl (hl1 c1).ob je_3_12 rfl ?_
  obtain ⟨c2, h2⟩ := h1
  refine jw_ifnonnull (p := 7) rfl jM10 jq10_4 (fun c3 => ?_) (fun c3 => ?_)
  · have h3 := h2.1 c3
    refine jw_iconst (p := 16) rfl jM10 jq10_15 ?_
    refine jiS2 (p := 17) rfl jM10 jq10_16 ?_
    exact h3
  · have h3 := h2.2 c3
    refine jaL1 (p := 8) rfl jM10 jq10_7 ?_
    refine jw_bipush (p := 10) rfl jM10 jq10_8 (by decide) ?_
    exact h3
theorem jk10_17 {d : Nat} {σ : ib_H} {Q : ib_O → Prop} {l1 : Nat} {l2 : Int} (hF : jb_F σ) (hl1 : l1 ≠ 0 → jb_rc σ l1) (hl2 : jb_r l2)
    (h : (24 ≤ l2 → jb_w d 10 47 [some (.ref 66), some (.ref l1), some (jb_v 0), none] [] σ Q) ∧ (¬ (24 ≤ l2) → (l1 ≠ 0) ∧ ((jb_p σ l1 12 ≠ 0 → jb_arr σ 100 (jb_p σ l1 12) 24) ∧ ((jb_p σ l1 12 ≠ 0) ∧ ((24 ≤ l2 → jb_w d 10 47 [some (.ref 66), some (.ref l1), some (jb_v 0), none] [] σ Q) ∧ (¬ (24 ≤ l2) → (jb_p σ l1 12 ≠ 0 → jb_arr σ 100 (jb_p σ l1 12) 24) ∧ ((0 ≤ l2 ∧ l2 < 24) ∧ (jb_w d 10 17 [some (.ref 66), some (.ref l1), some (jb_v (l2 + 1)), none] [] (jb_si σ (jb_p σ l1 12) l2 0) Q)))))))) :
    jb_w d 10 17 [some (.ref 66), some (.ref l1), some (jb_v l2), none] [] σ Q := by
  refine jiL2 (p := 18) rfl jM10 jq10_17 ?_
  refine jw_bipush (p := 20) rfl jM10 jq10_18 (by decide) ?_
  refine jw_ic (p := 23) rfl jM10 jq10_20 (jc_ge hl2 (jb_rn rfl)) (fun c1 => ?_) (fun c1 => ?_)
  · have h1 := h.1 c1
    refine jw_iconst (p := 46) rfl jM10 jq10_45 ?_
    refine jiS2 (p := 47) rfl jM10 jq10_46 ?_
    exact h1
  · have h1 := h.2 c1
    refine jiL2 (p := 24) rfl jM10 jq10_23 ?_
    refine jaL1 (p := 25) rfl jM10 jq10_24 ?_
    obtain ⟨c2, h2⟩ := h1
    refine jw_getP (p := 28) (i := 12) rfl jM10 jq10_25 rfl (hl1 c2).ob je_3_12 rfl ?_
    obtain ⟨c3, h3⟩ := h2
    obtain ⟨c4, h4⟩ := h3
    refine jw_alen (p := 29) rfl jM10 jq10_28 (c3 c4) (by decide) ?_
    refine jw_ic (p := 32) rfl jM10 jq10_29 (jc_ge hl2 (jb_rn rfl)) (fun c5 => ?_) (fun c5 => ?_)
    · have h5 := h4.1 c5
      refine jw_iconst (p := 46) rfl jM10 jq10_45 ?_
      refine jiS2 (p := 47) rfl jM10 jq10_46 ?_
      exact h5
    · have h5 := h4.2 c5
      refine jaL1 (p := 33) rfl jM10 jq10_32 ?_
      refine jw_getP (p := 36) (i := 12) rfl jM10 jq10_33 rfl (hl1 c2).ob je_3_12 rfl ?_
      obtain ⟨c6, h6⟩ := h5
      refine jiL2 (p := 37) rfl jM10 jq10_36 ?_
      refine jw_iconst (p := 38) rfl jM10 jq10_37 ?_
      obtain ⟨c7, h7⟩ := h6
      refine jw_iast (p := 39) rfl jM10 jq10_38 (c6 c4) c7.1 c7.2 ?_
      refine jiI2 (p := 42) rfl jM10 jq10_39 ?_
      refine jw_goto jM10 jq10_42 ?_
      exact h7
theorem jk10_12 {d : Nat} {σ : ib_H} {Q : ib_O → Prop} {l1 : Nat} {s0 : Nat} {s1 : Nat} (hF : jb_F σ) (hl1 : l1 ≠ 0 → jb_rc σ l1) (hs0 : s0 ≠ 0 → jb_rc σ s0) (hs1 : jb_arr σ 100 s1 24)
    (h : (s0 ≠ 0) ∧ (jb_w d 10 17 [some (.ref 66), some (.ref l1), some (jb_v 0), none] [] (jb_sp σ s0 12 s1) Q)) :
    jb_w d 10 12 [some (.ref 66), some (.ref l1), none, none] [(.ref s1), (.ref s0)] σ Q := by
  obtain ⟨c1, h1⟩ := h
  refine jw_putP (p := 15) (i := 12) rfl jM10 jq10_12 rfl (hs0 c1).ob je_3_12 hs1.n1 ?_
  refine jw_iconst (p := 16) rfl jM10 jq10_15 ?_
  refine jiS2 (p := 17) rfl jM10 jq10_16 ?_
  exact h1
theorem jk10_47 {d : Nat} {σ : ib_H} {Q : ib_O → Prop} {l1 : Nat} {l2 : Int} (hF : jb_F σ) (hl1 : l1 ≠ 0 → jb_rc σ l1) (hl2 : jb_r l2)
    (h : (4 ≤ l2 → Q (.inl none, σ)) ∧ (¬ (4 ≤ l2) → (0 ≤ l2 ∧ l2 < 4) ∧ ((jb_i σ 68 l2 < 0 → jb_w d 10 47 [some (.ref 66), some (.ref l1), some (jb_v (l2 + 1)), some (jb_v (jb_i σ 68 l2))] [] σ Q) ∧ (¬ (jb_i σ 68 l2 < 0) → (l1 ≠ 0) ∧ ((jb_p σ l1 12 ≠ 0 → jb_arr σ 100 (jb_p σ l1 12) 24) ∧ ((jb_p σ l1 12 ≠ 0) ∧ ((24 ≤ jb_i σ 68 l2 → jb_w d 10 47 [some (.ref 66), some (.ref l1), some (jb_v (l2 + 1)), some (jb_v (jb_i σ 68 l2))] [] σ Q) ∧ (¬ (24 ≤ jb_i σ 68 l2) → (jb_p σ l1 12 ≠ 0 → jb_arr σ 100 (jb_p σ l1 12) 24) ∧ ((0 ≤ (jb_i σ 68 l2) ∧ (jb_i σ 68 l2) < 24) ∧ (jb_w d 10 47 [some (.ref 66), some (.ref l1), some (jb_v (l2 + 1)), some (jb_v (jb_i σ 68 l2))] [] (jb_si σ (jb_p σ l1 12) (jb_i σ 68 l2) (jb_i σ 70 l2)) Q)))))))))) :
    jb_w d 10 47 [some (.ref 66), some (.ref l1), some (jb_v l2), none] [] σ Q := by
  refine jiL2 (p := 48) rfl jM10 jq10_47 ?_
  refine jw_iconst (p := 49) rfl jM10 jq10_48 ?_
  refine jw_ic (p := 52) rfl jM10 jq10_49 (jc_ge hl2 (jb_rn rfl)) (fun c1 => ?_) (fun c1 => ?_)
  · have h1 := h.1 c1
    exact jw_vret jM10 jq10_90 h1
  · have h1 := h.2 c1
    refine jaL0 (p := 53) rfl jM10 jq10_52 ?_
    refine jw_getP (p := 56) (i := 2) (q := 68) rfl jM10 jq10_53 rfl (jo_66 hF) je_0_2 (jp_66_2 hF) ?_
    refine jiL2 (p := 57) rfl jM10 jq10_56 ?_
    obtain ⟨c2, h2⟩ := h1
    refine jw_iald (p := 58) rfl jM10 jq10_57 (ja_68 hF) c2.1 c2.2 ?_
    refine jiS3 (p := 59) rfl jM10 jq10_58 ?_
    refine jiL3 (p := 60) rfl jM10 jq10_59 ?_
    refine jw_if (p := 63) rfl jM10 jq10_60 (jc_lt (jb_r_i _ _ _) jb_r0) (fun c3 => ?_) (fun c3 => ?_)
    · have h3 := h2.1 c3
      refine jiI2 (p := 87) rfl jM10 jq10_84 ?_
      refine jw_goto jM10 jq10_87 ?_
      exact h3
    · have h3 := h2.2 c3
      refine jiL3 (p := 64) rfl jM10 jq10_63 ?_
      refine jaL1 (p := 65) rfl jM10 jq10_64 ?_
      obtain ⟨c4, h4⟩ := h3
      refine jw_getP (p := 68) (i := 12) rfl jM10 jq10_65 rfl (hl1 c4).ob je_3_12 rfl ?_
      obtain ⟨c5, h5⟩ := h4
      obtain ⟨c6, h6⟩ := h5
      refine jw_alen (p := 69) rfl jM10 jq10_68 (c5 c6) (by decide) ?_
      refine jw_ic (p := 72) rfl jM10 jq10_69 (jc_ge (jb_r_i _ _ _) (jb_rn rfl)) (fun c7 => ?_) (fun c7 => ?_)
      · have h7 := h6.1 c7
        refine jiI2 (p := 87) rfl jM10 jq10_84 ?_
        refine jw_goto jM10 jq10_87 ?_
        exact h7
      · have h7 := h6.2 c7
        refine jaL1 (p := 73) rfl jM10 jq10_72 ?_
        refine jw_getP (p := 76) (i := 12) rfl jM10 jq10_73 rfl (hl1 c4).ob je_3_12 rfl ?_
        obtain ⟨c8, h8⟩ := h7
        refine jiL3 (p := 77) rfl jM10 jq10_76 ?_
        refine jaL0 (p := 78) rfl jM10 jq10_77 ?_
        refine jw_getP (p := 81) (i := 4) (q := 70) rfl jM10 jq10_78 rfl (jo_66 hF) je_0_4 (jp_66_4 hF) ?_
        refine jiL2 (p := 82) rfl jM10 jq10_81 ?_
        refine jw_iald (p := 83) rfl jM10 jq10_82 (ja_70 hF) c2.1 c2.2 ?_
        obtain ⟨c9, h9⟩ := h8
        refine jw_iast (p := 84) rfl jM10 jq10_83 (c8 c6) c9.1 c9.2 ?_
        refine jiI2 (p := 87) rfl jM10 jq10_84 ?_
        refine jw_goto jM10 jq10_87 ?_
        exact h9
theorem jk10_47_2 {d : Nat} {σ : ib_H} {Q : ib_O → Prop} {l1 : Nat} {l2 : Int} {l3 : Int} (hF : jb_F σ) (hl1 : l1 ≠ 0 → jb_rc σ l1) (hl2 : jb_r l2) (hl3 : jb_r l3)
    (h : (4 ≤ l2 → Q (.inl none, σ)) ∧ (¬ (4 ≤ l2) → (0 ≤ l2 ∧ l2 < 4) ∧ ((jb_i σ 68 l2 < 0 → jb_w d 10 47 [some (.ref 66), some (.ref l1), some (jb_v (l2 + 1)), some (jb_v (jb_i σ 68 l2))] [] σ Q) ∧ (¬ (jb_i σ 68 l2 < 0) → (l1 ≠ 0) ∧ ((jb_p σ l1 12 ≠ 0 → jb_arr σ 100 (jb_p σ l1 12) 24) ∧ ((jb_p σ l1 12 ≠ 0) ∧ ((24 ≤ jb_i σ 68 l2 → jb_w d 10 47 [some (.ref 66), some (.ref l1), some (jb_v (l2 + 1)), some (jb_v (jb_i σ 68 l2))] [] σ Q) ∧ (¬ (24 ≤ jb_i σ 68 l2) → (jb_p σ l1 12 ≠ 0 → jb_arr σ 100 (jb_p σ l1 12) 24) ∧ ((0 ≤ (jb_i σ 68 l2) ∧ (jb_i σ 68 l2) < 24) ∧ (jb_w d 10 47 [some (.ref 66), some (.ref l1), some (jb_v (l2 + 1)), some (jb_v (jb_i σ 68 l2))] [] (jb_si σ (jb_p σ l1 12) (jb_i σ 68 l2) (jb_i σ 70 l2)) Q)))))))))) :
    jb_w d 10 47 [some (.ref 66), some (.ref l1), some (jb_v l2), some (jb_v l3)] [] σ Q := by
  refine jiL2 (p := 48) rfl jM10 jq10_47 ?_
  refine jw_iconst (p := 49) rfl jM10 jq10_48 ?_
  refine jw_ic (p := 52) rfl jM10 jq10_49 (jc_ge hl2 (jb_rn rfl)) (fun c1 => ?_) (fun c1 => ?_)
  · have h1 := h.1 c1
    exact jw_vret jM10 jq10_90 h1
  · have h1 := h.2 c1
    refine jaL0 (p := 53) rfl jM10 jq10_52 ?_
    refine jw_getP (p := 56) (i := 2) (q := 68) rfl jM10 jq10_53 rfl (jo_66 hF) je_0_2 (jp_66_2 hF) ?_
    refine jiL2 (p := 57) rfl jM10 jq10_56 ?_
    obtain ⟨c2, h2⟩ := h1
    refine jw_iald (p := 58) rfl jM10 jq10_57 (ja_68 hF) c2.1 c2.2 ?_
    refine jiS3 (p := 59) rfl jM10 jq10_58 ?_
    refine jiL3 (p := 60) rfl jM10 jq10_59 ?_
    refine jw_if (p := 63) rfl jM10 jq10_60 (jc_lt (jb_r_i _ _ _) jb_r0) (fun c3 => ?_) (fun c3 => ?_)
    · have h3 := h2.1 c3
      refine jiI2 (p := 87) rfl jM10 jq10_84 ?_
      refine jw_goto jM10 jq10_87 ?_
      exact h3
    · have h3 := h2.2 c3
      refine jiL3 (p := 64) rfl jM10 jq10_63 ?_
      refine jaL1 (p := 65) rfl jM10 jq10_64 ?_
      obtain ⟨c4, h4⟩ := h3
      refine jw_getP (p := 68) (i := 12) rfl jM10 jq10_65 rfl (hl1 c4).ob je_3_12 rfl ?_
      obtain ⟨c5, h5⟩ := h4
      obtain ⟨c6, h6⟩ := h5
      refine jw_alen (p := 69) rfl jM10 jq10_68 (c5 c6) (by decide) ?_
      refine jw_ic (p := 72) rfl jM10 jq10_69 (jc_ge (jb_r_i _ _ _) (jb_rn rfl)) (fun c7 => ?_) (fun c7 => ?_)
      · have h7 := h6.1 c7
        refine jiI2 (p := 87) rfl jM10 jq10_84 ?_
        refine jw_goto jM10 jq10_87 ?_
        exact h7
      · have h7 := h6.2 c7
        refine jaL1 (p := 73) rfl jM10 jq10_72 ?_
        refine jw_getP (p := 76) (i := 12) rfl jM10 jq10_73 rfl (hl1 c4).ob je_3_12 rfl ?_
        obtain ⟨c8, h8⟩ := h7
        refine jiL3 (p := 77) rfl jM10 jq10_76 ?_
        refine jaL0 (p := 78) rfl jM10 jq10_77 ?_
        refine jw_getP (p := 81) (i := 4) (q := 70) rfl jM10 jq10_78 rfl (jo_66 hF) je_0_4 (jp_66_4 hF) ?_
        refine jiL2 (p := 82) rfl jM10 jq10_81 ?_
        refine jw_iald (p := 83) rfl jM10 jq10_82 (ja_70 hF) c2.1 c2.2 ?_
        obtain ⟨c9, h9⟩ := h8
        refine jw_iast (p := 84) rfl jM10 jq10_83 (c8 c6) c9.1 c9.2 ?_
        refine jiI2 (p := 87) rfl jM10 jq10_84 ?_
        refine jw_goto jM10 jq10_87 ?_
        exact h9
-- 69 PageLoom$Tree.onWay(I)I
theorem jk69_0 {d : Nat} {σ : ib_H} {Q : ib_O → Prop} {l1 : Int} (hF : jb_F σ) (hl1 : jb_r l1)
    (h : (l1 < 0 → Q (.inl (some (jb_v 0)), σ)) ∧ (¬ (l1 < 0) → (24 ≤ l1 → Q (.inl (some (jb_v 0)), σ)) ∧ (¬ (24 ≤ l1) → (0 ≤ l1 ∧ l1 < 24) ∧ (Q (.inl (some (jb_v (jb_i σ 80 l1))), σ))))) :
    jb_w d 69 0 [some (.ref 79), some (jb_v l1)] [] σ Q := by
  refine jiL1 (p := 1) rfl jM69 jq69_0 ?_
  refine jw_if (p := 4) rfl jM69 jq69_1 (jc_lt hl1 jb_r0) (fun c1 => ?_) (fun c1 => ?_)
  · have h1 := h.1 c1
    refine jw_iconst (p := 20) rfl jM69 jq69_19 ?_
    exact jw_iret jM69 jq69_20 (fun z => absurd z (by decide)) h1
  · have h1 := h.2 c1
    refine jiL1 (p := 5) rfl jM69 jq69_4 ?_
    refine jw_bipush (p := 7) rfl jM69 jq69_5 (by decide) ?_
    refine jw_ic (p := 10) rfl jM69 jq69_7 (jc_ge hl1 (jb_rn rfl)) (fun c2 => ?_) (fun c2 => ?_)
    · have h2 := h1.1 c2
      refine jw_iconst (p := 20) rfl jM69 jq69_19 ?_
      exact jw_iret jM69 jq69_20 (fun z => absurd z (by decide)) h2
    · have h2 := h1.2 c2
      refine jaL0 (p := 11) rfl jM69 jq69_10 ?_
      refine jw_getP (p := 14) (i := 2) (q := 80) rfl jM69 jq69_11 rfl (jo_79 hF) je_7_2 (jp_79_2 hF) ?_
      refine jiL1 (p := 15) rfl jM69 jq69_14 ?_
      obtain ⟨c3, h3⟩ := h2
      refine jw_iald (p := 16) rfl jM69 jq69_15 (ja_80 hF) c3.1 c3.2 ?_
      refine jw_goto jM69 jq69_16 ?_
      exact jw_iret jM69 jq69_20 (fun z => absurd z (by decide)) h3
-- 70 PageLoom$Tree.end()I
theorem jk70_0 {d : Nat} {σ : ib_H} {Q : ib_O → Prop}  (hF : jb_F σ) 
    (h : jb_w d 69 0 [some (.ref 79), some (jb_v (jb_i σ 79 3))] [] σ (jb_k (d + 1) 70 5 [some (.ref 79)] [] Q)) :
    jb_w (d + 1) 70 0 [some (.ref 79)] [] σ Q := by
  refine jaL0 (p := 1) rfl jM70 jq70_0 ?_
  refine jaL0 (p := 2) rfl jM70 jq70_1 ?_
  refine jw_getI (p := 5) (i := 3) rfl jM70 jq70_2 rfl (jo_79 hF) jn_7_3 ?_
  refine jw_callV [(jb_v (jb_i σ 79 3))] jM70 jq70_5 rfl rfl (jo_79 hF) rfl jM69 rfl rfl ?_
  exact h
theorem jk70_8 {d : Nat} {σ : ib_H} {Q : ib_O → Prop} {s0 : Int} (hF : jb_F σ) (hs0 : jb_r s0)
    (h : Q (.inl (some (jb_v s0)), σ)) :
    jb_w d 70 8 [some (.ref 79)] [(jb_v s0)] σ Q := by
  exact jw_iret jM70 jq70_8 (fun z => absurd z (by decide)) h
-- 71 PageLoom$Tree.find(I)Z
theorem jk71_0 {d : Nat} {σ : ib_H} {Q : ib_O → Prop} {l1 : Int} (hF : jb_F σ) (hl1 : jb_r l1)
    (h : jb_w d 71 4 [some (.ref 79), some (jb_v l1), some (jb_v 0), some (jb_v 0), none] [] σ Q) :
    jb_w d 71 0 [some (.ref 79), some (jb_v l1), none, none, none] [] σ Q := by
  refine jw_iconst (p := 1) rfl jM71 jq71_0 ?_
  refine jiS2 (p := 2) rfl jM71 jq71_1 ?_
  refine jw_iconst (p := 3) rfl jM71 jq71_2 ?_
  refine jiS3 (p := 4) rfl jM71 jq71_3 ?_
  exact h
theorem jk71_4 {d : Nat} {σ : ib_H} {Q : ib_O → Prop} {l1 : Int} {l2 : Int} {l3 : Int} (hF : jb_F σ) (hl1 : jb_r l1) (hl2 : jb_r l2) (hl3 : jb_r l3)
    (h : (24 ≤ l3 → Q (.inl (some (jb_v 0)), σ)) ∧ (¬ (24 ≤ l3) → jb_w d 5 0 [some (.ref 66), some (jb_v l2), none] [] σ (jb_k (d + 1) 71 15 [some (.ref 79), some (jb_v l1), some (jb_v l2), some (jb_v l3), none] [] Q))) :
    jb_w (d + 1) 71 4 [some (.ref 79), some (jb_v l1), some (jb_v l2), some (jb_v l3), none] [] σ Q := by
  refine jiL3 (p := 5) rfl jM71 jq71_4 ?_
  refine jw_bipush (p := 7) rfl jM71 jq71_5 (by decide) ?_
  refine jw_ic (p := 10) rfl jM71 jq71_7 (jc_ge hl3 (jb_rn rfl)) (fun c1 => ?_) (fun c1 => ?_)
  · have h1 := h.1 c1
    refine jw_iconst (p := 84) rfl jM71 jq71_83 ?_
    exact jw_iret jM71 jq71_84 (fun _ => Or.inl rfl) h1
  · have h1 := h.2 c1
    refine jaL0 (p := 11) rfl jM71 jq71_10 ?_
    refine jw_getP (p := 14) (i := 0) (q := 66) rfl jM71 jq71_11 rfl (jo_79 hF) je_7_0 (jp_79_0 hF) ?_
    refine jiL2 (p := 15) rfl jM71 jq71_14 ?_
    refine jw_callV [(jb_v l2)] jM71 jq71_15 rfl rfl (jo_66 hF) rfl jM5 rfl rfl ?_
    exact h1
theorem jk71_18 {d : Nat} {σ : ib_H} {Q : ib_O → Prop} {l1 : Int} {l2 : Int} {l3 : Int} {s0 : Int} (hF : jb_F σ) (hl1 : jb_r l1) (hl2 : jb_r l2) (hl3 : jb_r l3) (hs0 : jb_r s0)
    (h : (¬ s0 = 0 → (0 ≤ l3 ∧ l3 < 24) ∧ (jb_w d 3 0 [some (.ref 66), some (jb_v l2), none] [] (jb_si (jb_si σ 80 l3 l2) 79 3 l3) (jb_k (d + 1) 71 40 [some (.ref 79), some (jb_v l1), some (jb_v l2), some (jb_v l3), none] [] Q))) ∧ (¬ (¬ s0 = 0) → Q (.inl (some (jb_v 0)), σ))) :
    jb_w (d + 1) 71 18 [some (.ref 79), some (jb_v l1), some (jb_v l2), some (jb_v l3), none] [(jb_v s0)] σ Q := by
  refine jw_if (p := 21) rfl jM71 jq71_18 (jc_ne hs0 jb_r0) (fun c1 => ?_) (fun c1 => ?_)
  · have h1 := h.1 c1
    refine jaL0 (p := 24) rfl jM71 jq71_23 ?_
    refine jw_getP (p := 27) (i := 2) (q := 80) rfl jM71 jq71_24 rfl (jo_79 hF) je_7_2 (jp_79_2 hF) ?_
    refine jiL3 (p := 28) rfl jM71 jq71_27 ?_
    refine jiL2 (p := 29) rfl jM71 jq71_28 ?_
    obtain ⟨c2, h2⟩ := h1
    refine jw_iast (p := 30) rfl jM71 jq71_29 (ja_80 hF) c2.1 c2.2 ?_
    refine jaL0 (p := 31) rfl jM71 jq71_30 ?_
    refine jiL3 (p := 32) rfl jM71 jq71_31 ?_
    refine jw_putI (p := 35) (i := 3) rfl jM71 jq71_32 rfl (jo_79 hF) (Or.inl jz_7_3) ?_
    refine jaL0 (p := 36) rfl jM71 jq71_35 ?_
    refine jw_getP (p := 39) (i := 0) (q := 66) rfl jM71 jq71_36 rfl (jo_79 hF) je_7_0 (jp_79_0 hF) ?_
    refine jiL2 (p := 40) rfl jM71 jq71_39 ?_
    refine jw_callV [(jb_v l2)] jM71 jq71_40 rfl rfl (jo_66 hF) rfl jM3 rfl rfl ?_
    exact h2
  · have h1 := h.2 c1
    refine jw_iconst (p := 22) rfl jM71 jq71_21 ?_
    exact jw_iret jM71 jq71_22 (fun _ => Or.inl rfl) h1
theorem jk71_43 {d : Nat} {σ : ib_H} {Q : ib_O → Prop} {l1 : Int} {l2 : Int} {l3 : Int} {s0 : Nat} (hF : jb_F σ) (hl1 : jb_r l1) (hl2 : jb_r l2) (hl3 : jb_r l3) (hs0 : s0 ≠ 0 → jb_pg σ s0)
    (h : (s0 = 0 → (s0 = 0 → Q (.inl (some (jb_v 0)), σ)) ∧ (¬ (s0 = 0) → Q (.inl (some (jb_v 1)), σ))) ∧ (¬ (s0 = 0) → (jb_i σ s0 0 = 2 → jb_w d 40 0 [some (.ref s0), some (jb_v l1), none, none] [] σ (jb_k (d + 1) 71 73 [some (.ref 79), some (jb_v l1), some (jb_v l2), some (jb_v l3), some (.ref s0)] [] Q)) ∧ (¬ (jb_i σ s0 0 = 2) → (s0 = 0 → Q (.inl (some (jb_v 0)), σ)) ∧ (¬ (s0 = 0) → Q (.inl (some (jb_v 1)), σ))))) :
    jb_w (d + 1) 71 43 [some (.ref 79), some (jb_v l1), some (jb_v l2), some (jb_v l3), none] [(.ref s0)] σ Q := by
  refine jaS4 (p := 45) rfl jM71 jq71_43 ?_
  refine jaL4 (p := 47) rfl jM71 jq71_45 ?_
  refine jw_ifnull (p := 50) rfl jM71 jq71_47 (fun c1 => ?_) (fun c1 => ?_)
  · have h1 := h.1 c1
    refine jaL4 (p := 61) rfl jM71 jq71_59 ?_
    refine jw_ifnull (p := 64) rfl jM71 jq71_61 (fun c2 => ?_) (fun c2 => ?_)
    · have h2 := h1.1 c2
      refine jw_iconst (p := 69) rfl jM71 jq71_68 ?_
      exact jw_iret jM71 jq71_69 (fun _ => Or.inl rfl) h2
    · have h2 := h1.2 c2
      refine jw_iconst (p := 65) rfl jM71 jq71_64 ?_
      refine jw_goto jM71 jq71_65 ?_
      exact jw_iret jM71 jq71_69 (fun _ => Or.inr rfl) h2
  · have h1 := h.2 c1
    refine jaL4 (p := 52) rfl jM71 jq71_50 ?_
    refine jw_getI (p := 55) (i := 0) rfl jM71 jq71_52 rfl (hs0 c1).ob jn_4_0 ?_
    refine jw_iconst (p := 56) rfl jM71 jq71_55 ?_
    refine jw_ic (p := 59) rfl jM71 jq71_56 (jc_eq (jb_r_i _ _ _) (jb_rn rfl)) (fun c3 => ?_) (fun c3 => ?_)
    · have h3 := h1.1 c3
      refine jaL4 (p := 72) rfl jM71 jq71_70 ?_
      refine jiL1 (p := 73) rfl jM71 jq71_72 ?_
      refine jw_callV [(jb_v l1)] jM71 jq71_73 rfl rfl (hs0 c1).ob rfl jM40 rfl rfl ?_
      exact h3
    · have h3 := h1.2 c3
      refine jaL4 (p := 61) rfl jM71 jq71_59 ?_
      refine jw_ifnull (p := 64) rfl jM71 jq71_61 (fun c4 => ?_) (fun c4 => ?_)
      · have h4 := h3.1 c4
        refine jw_iconst (p := 69) rfl jM71 jq71_68 ?_
        exact jw_iret jM71 jq71_69 (fun _ => Or.inl rfl) h4
      · have h4 := h3.2 c4
        refine jw_iconst (p := 65) rfl jM71 jq71_64 ?_
        refine jw_goto jM71 jq71_65 ?_
        exact jw_iret jM71 jq71_69 (fun _ => Or.inr rfl) h4
theorem jk71_76 {d : Nat} {σ : ib_H} {Q : ib_O → Prop} {l1 : Int} {l2 : Int} {l3 : Int} {l4 : Nat} {s0 : Int} (hF : jb_F σ) (hl1 : jb_r l1) (hl2 : jb_r l2) (hl3 : jb_r l3) (hl4 : l4 ≠ 0 → jb_pg σ l4) (hs0 : jb_r s0)
    (h : jb_w d 71 4 [some (.ref 79), some (jb_v l1), some (jb_v s0), some (jb_v (l3 + 1)), some (.ref l4)] [] σ Q) :
    jb_w d 71 76 [some (.ref 79), some (jb_v l1), some (jb_v l2), some (jb_v l3), some (.ref l4)] [(jb_v s0)] σ Q := by
  refine jiS2 (p := 77) rfl jM71 jq71_76 ?_
  refine jiI3 (p := 80) rfl jM71 jq71_77 ?_
  refine jw_goto jM71 jq71_80 ?_
  exact h
theorem jk71_4_2 {d : Nat} {σ : ib_H} {Q : ib_O → Prop} {l1 : Int} {l2 : Int} {l3 : Int} {l4 : Nat} (hF : jb_F σ) (hl1 : jb_r l1) (hl2 : jb_r l2) (hl3 : jb_r l3) (hl4 : l4 ≠ 0 → jb_pg σ l4)
    (h : (24 ≤ l3 → Q (.inl (some (jb_v 0)), σ)) ∧ (¬ (24 ≤ l3) → jb_w d 5 0 [some (.ref 66), some (jb_v l2), none] [] σ (jb_k (d + 1) 71 15 [some (.ref 79), some (jb_v l1), some (jb_v l2), some (jb_v l3), some (.ref l4)] [] Q))) :
    jb_w (d + 1) 71 4 [some (.ref 79), some (jb_v l1), some (jb_v l2), some (jb_v l3), some (.ref l4)] [] σ Q := by
  refine jiL3 (p := 5) rfl jM71 jq71_4 ?_
  refine jw_bipush (p := 7) rfl jM71 jq71_5 (by decide) ?_
  refine jw_ic (p := 10) rfl jM71 jq71_7 (jc_ge hl3 (jb_rn rfl)) (fun c1 => ?_) (fun c1 => ?_)
  · have h1 := h.1 c1
    refine jw_iconst (p := 84) rfl jM71 jq71_83 ?_
    exact jw_iret jM71 jq71_84 (fun _ => Or.inl rfl) h1
  · have h1 := h.2 c1
    refine jaL0 (p := 11) rfl jM71 jq71_10 ?_
    refine jw_getP (p := 14) (i := 0) (q := 66) rfl jM71 jq71_11 rfl (jo_79 hF) je_7_0 (jp_79_0 hF) ?_
    refine jiL2 (p := 15) rfl jM71 jq71_14 ?_
    refine jw_callV [(jb_v l2)] jM71 jq71_15 rfl rfl (jo_66 hF) rfl jM5 rfl rfl ?_
    exact h1
theorem jk71_18_2 {d : Nat} {σ : ib_H} {Q : ib_O → Prop} {l1 : Int} {l2 : Int} {l3 : Int} {l4 : Nat} {s0 : Int} (hF : jb_F σ) (hl1 : jb_r l1) (hl2 : jb_r l2) (hl3 : jb_r l3) (hl4 : l4 ≠ 0 → jb_pg σ l4) (hs0 : jb_r s0)
    (h : (¬ s0 = 0 → (0 ≤ l3 ∧ l3 < 24) ∧ (jb_w d 3 0 [some (.ref 66), some (jb_v l2), none] [] (jb_si (jb_si σ 80 l3 l2) 79 3 l3) (jb_k (d + 1) 71 40 [some (.ref 79), some (jb_v l1), some (jb_v l2), some (jb_v l3), some (.ref l4)] [] Q))) ∧ (¬ (¬ s0 = 0) → Q (.inl (some (jb_v 0)), σ))) :
    jb_w (d + 1) 71 18 [some (.ref 79), some (jb_v l1), some (jb_v l2), some (jb_v l3), some (.ref l4)] [(jb_v s0)] σ Q := by
  refine jw_if (p := 21) rfl jM71 jq71_18 (jc_ne hs0 jb_r0) (fun c1 => ?_) (fun c1 => ?_)
  · have h1 := h.1 c1
    refine jaL0 (p := 24) rfl jM71 jq71_23 ?_
    refine jw_getP (p := 27) (i := 2) (q := 80) rfl jM71 jq71_24 rfl (jo_79 hF) je_7_2 (jp_79_2 hF) ?_
    refine jiL3 (p := 28) rfl jM71 jq71_27 ?_
    refine jiL2 (p := 29) rfl jM71 jq71_28 ?_
    obtain ⟨c2, h2⟩ := h1
    refine jw_iast (p := 30) rfl jM71 jq71_29 (ja_80 hF) c2.1 c2.2 ?_
    refine jaL0 (p := 31) rfl jM71 jq71_30 ?_
    refine jiL3 (p := 32) rfl jM71 jq71_31 ?_
    refine jw_putI (p := 35) (i := 3) rfl jM71 jq71_32 rfl (jo_79 hF) (Or.inl jz_7_3) ?_
    refine jaL0 (p := 36) rfl jM71 jq71_35 ?_
    refine jw_getP (p := 39) (i := 0) (q := 66) rfl jM71 jq71_36 rfl (jo_79 hF) je_7_0 (jp_79_0 hF) ?_
    refine jiL2 (p := 40) rfl jM71 jq71_39 ?_
    refine jw_callV [(jb_v l2)] jM71 jq71_40 rfl rfl (jo_66 hF) rfl jM3 rfl rfl ?_
    exact h2
  · have h1 := h.2 c1
    refine jw_iconst (p := 22) rfl jM71 jq71_21 ?_
    exact jw_iret jM71 jq71_22 (fun _ => Or.inl rfl) h1
theorem jk71_43_2 {d : Nat} {σ : ib_H} {Q : ib_O → Prop} {l1 : Int} {l2 : Int} {l3 : Int} {l4 : Nat} {s0 : Nat} (hF : jb_F σ) (hl1 : jb_r l1) (hl2 : jb_r l2) (hl3 : jb_r l3) (hl4 : l4 ≠ 0 → jb_pg σ l4) (hs0 : s0 ≠ 0 → jb_pg σ s0)
    (h : (s0 = 0 → (s0 = 0 → Q (.inl (some (jb_v 0)), σ)) ∧ (¬ (s0 = 0) → Q (.inl (some (jb_v 1)), σ))) ∧ (¬ (s0 = 0) → (jb_i σ s0 0 = 2 → jb_w d 40 0 [some (.ref s0), some (jb_v l1), none, none] [] σ (jb_k (d + 1) 71 73 [some (.ref 79), some (jb_v l1), some (jb_v l2), some (jb_v l3), some (.ref s0)] [] Q)) ∧ (¬ (jb_i σ s0 0 = 2) → (s0 = 0 → Q (.inl (some (jb_v 0)), σ)) ∧ (¬ (s0 = 0) → Q (.inl (some (jb_v 1)), σ))))) :
    jb_w (d + 1) 71 43 [some (.ref 79), some (jb_v l1), some (jb_v l2), some (jb_v l3), some (.ref l4)] [(.ref s0)] σ Q := by
  refine jaS4 (p := 45) rfl jM71 jq71_43 ?_
  refine jaL4 (p := 47) rfl jM71 jq71_45 ?_
  refine jw_ifnull (p := 50) rfl jM71 jq71_47 (fun c1 => ?_) (fun c1 => ?_)
  · have h1 := h.1 c1
    refine jaL4 (p := 61) rfl jM71 jq71_59 ?_
    refine jw_ifnull (p := 64) rfl jM71 jq71_61 (fun c2 => ?_) (fun c2 => ?_)
    · have h2 := h1.1 c2
      refine jw_iconst (p := 69) rfl jM71 jq71_68 ?_
      exact jw_iret jM71 jq71_69 (fun _ => Or.inl rfl) h2
    · have h2 := h1.2 c2
      refine jw_iconst (p := 65) rfl jM71 jq71_64 ?_
      refine jw_goto jM71 jq71_65 ?_
      exact jw_iret jM71 jq71_69 (fun _ => Or.inr rfl) h2
  · have h1 := h.2 c1
    refine jaL4 (p := 52) rfl jM71 jq71_50 ?_
    refine jw_getI (p := 55) (i := 0) rfl jM71 jq71_52 rfl (hs0 c1).ob jn_4_0 ?_
    refine jw_iconst (p := 56) rfl jM71 jq71_55 ?_
    refine jw_ic (p := 59) rfl jM71 jq71_56 (jc_eq (jb_r_i _ _ _) (jb_rn rfl)) (fun c3 => ?_) (fun c3 => ?_)
    · have h3 := h1.1 c3
      refine jaL4 (p := 72) rfl jM71 jq71_70 ?_
      refine jiL1 (p := 73) rfl jM71 jq71_72 ?_
      refine jw_callV [(jb_v l1)] jM71 jq71_73 rfl rfl (hs0 c1).ob rfl jM40 rfl rfl ?_
      exact h3
    · have h3 := h1.2 c3
      refine jaL4 (p := 61) rfl jM71 jq71_59 ?_
      refine jw_ifnull (p := 64) rfl jM71 jq71_61 (fun c4 => ?_) (fun c4 => ?_)
      · have h4 := h3.1 c4
        refine jw_iconst (p := 69) rfl jM71 jq71_68 ?_
        exact jw_iret jM71 jq71_69 (fun _ => Or.inl rfl) h4
      · have h4 := h3.2 c4
        refine jw_iconst (p := 65) rfl jM71 jq71_64 ?_
        refine jw_goto jM71 jq71_65 ?_
        exact jw_iret jM71 jq71_69 (fun _ => Or.inr rfl) h4
-- 72 PageLoom$Tree.valueAtEnd(I)I
theorem jk72_0 {d : Nat} {σ : ib_H} {Q : ib_O → Prop} {l1 : Int} (hF : jb_F σ) (hl1 : jb_r l1)
    (h : jb_w d 70 0 [some (.ref 79)] [] σ (jb_k (d + 1) 72 5 [some (.ref 79), some (jb_v l1), none] [(.ref 66)] Q)) :
    jb_w (d + 1) 72 0 [some (.ref 79), some (jb_v l1), none] [] σ Q := by
  refine jaL0 (p := 1) rfl jM72 jq72_0 ?_
  refine jw_getP (p := 4) (i := 0) (q := 66) rfl jM72 jq72_1 rfl (jo_79 hF) je_7_0 (jp_79_0 hF) ?_
  refine jaL0 (p := 5) rfl jM72 jq72_4 ?_
  refine jw_callV [] jM72 jq72_5 rfl rfl (jo_79 hF) rfl jM70 rfl rfl ?_
  exact h
theorem jk72_8 {d : Nat} {σ : ib_H} {Q : ib_O → Prop} {l1 : Int} {s1 : Int} (hF : jb_F σ) (hl1 : jb_r l1) (hs1 : jb_r s1)
    (h : jb_w d 3 0 [some (.ref 66), some (jb_v s1), none] [] σ (jb_k (d + 1) 72 8 [some (.ref 79), some (jb_v l1), none] [] Q)) :
    jb_w (d + 1) 72 8 [some (.ref 79), some (jb_v l1), none] [(jb_v s1), (.ref 66)] σ Q := by
  refine jw_callV [(jb_v s1)] jM72 jq72_8 rfl rfl (jo_66 hF) rfl jM3 rfl rfl ?_
  exact h
theorem jk72_11 {d : Nat} {σ : ib_H} {Q : ib_O → Prop} {l1 : Int} {s0 : Nat} (hF : jb_F σ) (hl1 : jb_r l1) (hs0 : s0 ≠ 0 → jb_pg σ s0)
    (h : (¬ s0 = 0 → jb_w d 42 0 [some (.ref s0), some (jb_v l1), none, none] [] σ (jb_k (d + 1) 72 22 [some (.ref 79), some (jb_v l1), some (.ref s0)] [] Q)) ∧ (s0 = 0 → Q (.inl (some (jb_v (-1))), σ))) :
    jb_w (d + 1) 72 11 [some (.ref 79), some (jb_v l1), none] [(.ref s0)] σ Q := by
  refine jaS2 (p := 12) rfl jM72 jq72_11 ?_
  refine jaL2 (p := 13) rfl jM72 jq72_12 ?_
  refine jw_ifnonnull (p := 16) rfl jM72 jq72_13 (fun c1 => ?_) (fun c1 => ?_)
  · have h1 := h.1 c1
    refine jaL2 (p := 21) rfl jM72 jq72_20 ?_
    refine jiL1 (p := 22) rfl jM72 jq72_21 ?_
    refine jw_callV [(jb_v l1)] jM72 jq72_22 rfl rfl (hs0 c1).ob rfl jM42 rfl rfl ?_
    exact h1
  · have h1 := h.2 c1
    refine jw_iconst (p := 17) rfl jM72 jq72_16 ?_
    refine jw_goto jM72 jq72_17 ?_
    exact jw_iret jM72 jq72_25 (fun z => absurd z (by decide)) h1
theorem jk72_25 {d : Nat} {σ : ib_H} {Q : ib_O → Prop} {l1 : Int} {l2 : Nat} {s0 : Int} (hF : jb_F σ) (hl1 : jb_r l1) (hl2 : l2 ≠ 0 → jb_pg σ l2) (hs0 : jb_r s0)
    (h : Q (.inl (some (jb_v s0)), σ)) :
    jb_w d 72 25 [some (.ref 79), some (jb_v l1), some (.ref l2)] [(jb_v s0)] σ Q := by
  exact jw_iret jM72 jq72_25 (fun z => absurd z (by decide)) h
-- 73 PageLoom$Tree.endIsFullFor(I)Z
theorem jk73_0 {d : Nat} {σ : ib_H} {Q : ib_O → Prop} {l1 : Int} (hF : jb_F σ) (hl1 : jb_r l1)
    (h : jb_w d 70 0 [some (.ref 79)] [] σ (jb_k (d + 1) 73 5 [some (.ref 79), some (jb_v l1), none] [(.ref 66)] Q)) :
    jb_w (d + 1) 73 0 [some (.ref 79), some (jb_v l1), none] [] σ Q := by
  refine jaL0 (p := 1) rfl jM73 jq73_0 ?_
  refine jw_getP (p := 4) (i := 0) (q := 66) rfl jM73 jq73_1 rfl (jo_79 hF) je_7_0 (jp_79_0 hF) ?_
  refine jaL0 (p := 5) rfl jM73 jq73_4 ?_
  refine jw_callV [] jM73 jq73_5 rfl rfl (jo_79 hF) rfl jM70 rfl rfl ?_
  exact h
theorem jk73_8 {d : Nat} {σ : ib_H} {Q : ib_O → Prop} {l1 : Int} {s1 : Int} (hF : jb_F σ) (hl1 : jb_r l1) (hs1 : jb_r s1)
    (h : jb_w d 3 0 [some (.ref 66), some (jb_v s1), none] [] σ (jb_k (d + 1) 73 8 [some (.ref 79), some (jb_v l1), none] [] Q)) :
    jb_w (d + 1) 73 8 [some (.ref 79), some (jb_v l1), none] [(jb_v s1), (.ref 66)] σ Q := by
  refine jw_callV [(jb_v s1)] jM73 jq73_8 rfl rfl (jo_66 hF) rfl jM3 rfl rfl ?_
  exact h
theorem jk73_11 {d : Nat} {σ : ib_H} {Q : ib_O → Prop} {l1 : Int} {s0 : Nat} (hF : jb_F σ) (hl1 : jb_r l1) (hs0 : s0 ≠ 0 → jb_pg σ s0)
    (h : (s0 = 0 → Q (.inl (some (jb_v 0)), σ)) ∧ (¬ (s0 = 0) → (jb_i σ s0 2 < 4 → Q (.inl (some (jb_v 0)), σ)) ∧ (¬ (jb_i σ s0 2 < 4) → jb_w d 42 0 [some (.ref s0), some (jb_v l1), none, none] [] σ (jb_k (d + 1) 73 26 [some (.ref 79), some (jb_v l1), some (.ref s0)] [] Q)))) :
    jb_w (d + 1) 73 11 [some (.ref 79), some (jb_v l1), none] [(.ref s0)] σ Q := by
  refine jaS2 (p := 12) rfl jM73 jq73_11 ?_
  refine jaL2 (p := 13) rfl jM73 jq73_12 ?_
  refine jw_ifnull (p := 16) rfl jM73 jq73_13 (fun c1 => ?_) (fun c1 => ?_)
  · have h1 := h.1 c1
    refine jw_iconst (p := 38) rfl jM73 jq73_37 ?_
    exact jw_iret jM73 jq73_38 (fun _ => Or.inl rfl) h1
  · have h1 := h.2 c1
    refine jaL2 (p := 17) rfl jM73 jq73_16 ?_
    refine jw_getI (p := 20) (i := 2) rfl jM73 jq73_17 rfl (hs0 c1).ob jn_4_2 ?_
    refine jw_iconst (p := 21) rfl jM73 jq73_20 ?_
    refine jw_ic (p := 24) rfl jM73 jq73_21 (jc_lt (jb_r_i _ _ _) (jb_rn rfl)) (fun c2 => ?_) (fun c2 => ?_)
    · have h2 := h1.1 c2
      refine jw_iconst (p := 38) rfl jM73 jq73_37 ?_
      exact jw_iret jM73 jq73_38 (fun _ => Or.inl rfl) h2
    · have h2 := h1.2 c2
      refine jaL2 (p := 25) rfl jM73 jq73_24 ?_
      refine jiL1 (p := 26) rfl jM73 jq73_25 ?_
      refine jw_callV [(jb_v l1)] jM73 jq73_26 rfl rfl (hs0 c1).ob rfl jM42 rfl rfl ?_
      exact h2
theorem jk73_29 {d : Nat} {σ : ib_H} {Q : ib_O → Prop} {l1 : Int} {l2 : Nat} {s0 : Int} (hF : jb_F σ) (hl1 : jb_r l1) (hl2 : l2 ≠ 0 → jb_pg σ l2) (hs0 : jb_r s0)
    (h : (¬ s0 = (-1) → Q (.inl (some (jb_v 0)), σ)) ∧ (¬ (¬ s0 = (-1)) → Q (.inl (some (jb_v 1)), σ))) :
    jb_w d 73 29 [some (.ref 79), some (jb_v l1), some (.ref l2)] [(jb_v s0)] σ Q := by
  refine jw_iconst (p := 30) rfl jM73 jq73_29 ?_
  refine jw_ic (p := 33) rfl jM73 jq73_30 (jc_ne hs0 (jb_rn rfl)) (fun c1 => ?_) (fun c1 => ?_)
  · have h1 := h.1 c1
    refine jw_iconst (p := 38) rfl jM73 jq73_37 ?_
    exact jw_iret jM73 jq73_38 (fun _ => Or.inl rfl) h1
  · have h1 := h.2 c1
    refine jw_iconst (p := 34) rfl jM73 jq73_33 ?_
    refine jw_goto jM73 jq73_34 ?_
    exact jw_iret jM73 jq73_38 (fun _ => Or.inr rfl) h1
-- 74 PageLoom$Tree.topmostFull()I
theorem jk74_0 {d : Nat} {σ : ib_H} {Q : ib_O → Prop}  (hF : jb_F σ) 
    (h : jb_w d 74 12 [some (.ref 79), some (jb_v (jb_i σ 79 3)), some (jb_v ((jb_i σ 79 3) - 1)), none] [] σ Q) :
    jb_w d 74 0 [some (.ref 79), none, none, none] [] σ Q := by
  refine jaL0 (p := 1) rfl jM74 jq74_0 ?_
  refine jw_getI (p := 4) (i := 3) rfl jM74 jq74_1 rfl (jo_79 hF) jn_7_3 ?_
  refine jiS1 (p := 5) rfl jM74 jq74_4 ?_
  refine jaL0 (p := 6) rfl jM74 jq74_5 ?_
  refine jw_getI (p := 9) (i := 3) rfl jM74 jq74_6 rfl (jo_79 hF) jn_7_3 ?_
  refine jw_iconst (p := 10) rfl jM74 jq74_9 ?_
  refine jw_isub (p := 11) rfl jM74 jq74_10 ?_
  refine jiS2 (p := 12) rfl jM74 jq74_11 ?_
  exact h
theorem jk74_12 {d : Nat} {σ : ib_H} {Q : ib_O → Prop} {l1 : Int} {l2 : Int} (hF : jb_F σ) (hl1 : jb_r l1) (hl2 : jb_r l2)
    (h : (l2 < 0 → Q (.inl (some (jb_v l1)), σ)) ∧ (¬ (l2 < 0) → jb_w d 69 0 [some (.ref 79), some (jb_v l2)] [] σ (jb_k (d + 1) 74 22 [some (.ref 79), some (jb_v l1), some (jb_v l2), none] [(.ref 66)] Q))) :
    jb_w (d + 1) 74 12 [some (.ref 79), some (jb_v l1), some (jb_v l2), none] [] σ Q := by
  refine jiL2 (p := 13) rfl jM74 jq74_12 ?_
  refine jw_if (p := 16) rfl jM74 jq74_13 (jc_lt hl2 jb_r0) (fun c1 => ?_) (fun c1 => ?_)
  · have h1 := h.1 c1
    refine jiL1 (p := 52) rfl jM74 jq74_51 ?_
    exact jw_iret jM74 jq74_52 (fun z => absurd z (by decide)) h1
  · have h1 := h.2 c1
    refine jaL0 (p := 17) rfl jM74 jq74_16 ?_
    refine jw_getP (p := 20) (i := 0) (q := 66) rfl jM74 jq74_17 rfl (jo_79 hF) je_7_0 (jp_79_0 hF) ?_
    refine jaL0 (p := 21) rfl jM74 jq74_20 ?_
    refine jiL2 (p := 22) rfl jM74 jq74_21 ?_
    refine jw_callV [(jb_v l2)] jM74 jq74_22 rfl rfl (jo_79 hF) rfl jM69 rfl rfl ?_
    exact h1
theorem jk74_25 {d : Nat} {σ : ib_H} {Q : ib_O → Prop} {l1 : Int} {l2 : Int} {s1 : Int} (hF : jb_F σ) (hl1 : jb_r l1) (hl2 : jb_r l2) (hs1 : jb_r s1)
    (h : jb_w d 3 0 [some (.ref 66), some (jb_v s1), none] [] σ (jb_k (d + 1) 74 25 [some (.ref 79), some (jb_v l1), some (jb_v l2), none] [] Q)) :
    jb_w (d + 1) 74 25 [some (.ref 79), some (jb_v l1), some (jb_v l2), none] [(jb_v s1), (.ref 66)] σ Q := by
  refine jw_callV [(jb_v s1)] jM74 jq74_25 rfl rfl (jo_66 hF) rfl jM3 rfl rfl ?_
  exact h
theorem jk74_28 {d : Nat} {σ : ib_H} {Q : ib_O → Prop} {l1 : Int} {l2 : Int} {s0 : Nat} (hF : jb_F σ) (hl1 : jb_r l1) (hl2 : jb_r l2) (hs0 : s0 ≠ 0 → jb_pg σ s0)
    (h : (s0 = 0 → Q (.inl (some (jb_v l1)), σ)) ∧ (¬ (s0 = 0) → (4 ≤ jb_i σ s0 2 → jb_w d 74 12 [some (.ref 79), some (jb_v l2), some (jb_v (l2 + (-1))), some (.ref s0)] [] σ Q) ∧ (¬ (4 ≤ jb_i σ s0 2) → Q (.inl (some (jb_v l1)), σ)))) :
    jb_w d 74 28 [some (.ref 79), some (jb_v l1), some (jb_v l2), none] [(.ref s0)] σ Q := by
  refine jaS3 (p := 29) rfl jM74 jq74_28 ?_
  refine jaL3 (p := 30) rfl jM74 jq74_29 ?_
  refine jw_ifnull (p := 33) rfl jM74 jq74_30 (fun c1 => ?_) (fun c1 => ?_)
  · have h1 := h.1 c1
    refine jiL1 (p := 42) rfl jM74 jq74_41 ?_
    exact jw_iret jM74 jq74_42 (fun z => absurd z (by decide)) h1
  · have h1 := h.2 c1
    refine jaL3 (p := 34) rfl jM74 jq74_33 ?_
    refine jw_getI (p := 37) (i := 2) rfl jM74 jq74_34 rfl (hs0 c1).ob jn_4_2 ?_
    refine jw_iconst (p := 38) rfl jM74 jq74_37 ?_
    refine jw_ic (p := 41) rfl jM74 jq74_38 (jc_ge (jb_r_i _ _ _) (jb_rn rfl)) (fun c2 => ?_) (fun c2 => ?_)
    · have h2 := h1.1 c2
      refine jiL2 (p := 44) rfl jM74 jq74_43 ?_
      refine jiS1 (p := 45) rfl jM74 jq74_44 ?_
      refine jiI2 (p := 48) rfl jM74 jq74_45 ?_
      refine jw_goto jM74 jq74_48 ?_
      exact h2
    · have h2 := h1.2 c2
      refine jiL1 (p := 42) rfl jM74 jq74_41 ?_
      exact jw_iret jM74 jq74_42 (fun z => absurd z (by decide)) h2
theorem jk74_12_2 {d : Nat} {σ : ib_H} {Q : ib_O → Prop} {l1 : Int} {l2 : Int} {l3 : Nat} (hF : jb_F σ) (hl1 : jb_r l1) (hl2 : jb_r l2) (hl3 : l3 ≠ 0 → jb_pg σ l3)
    (h : (l2 < 0 → Q (.inl (some (jb_v l1)), σ)) ∧ (¬ (l2 < 0) → jb_w d 69 0 [some (.ref 79), some (jb_v l2)] [] σ (jb_k (d + 1) 74 22 [some (.ref 79), some (jb_v l1), some (jb_v l2), some (.ref l3)] [(.ref 66)] Q))) :
    jb_w (d + 1) 74 12 [some (.ref 79), some (jb_v l1), some (jb_v l2), some (.ref l3)] [] σ Q := by
  refine jiL2 (p := 13) rfl jM74 jq74_12 ?_
  refine jw_if (p := 16) rfl jM74 jq74_13 (jc_lt hl2 jb_r0) (fun c1 => ?_) (fun c1 => ?_)
  · have h1 := h.1 c1
    refine jiL1 (p := 52) rfl jM74 jq74_51 ?_
    exact jw_iret jM74 jq74_52 (fun z => absurd z (by decide)) h1
  · have h1 := h.2 c1
    refine jaL0 (p := 17) rfl jM74 jq74_16 ?_
    refine jw_getP (p := 20) (i := 0) (q := 66) rfl jM74 jq74_17 rfl (jo_79 hF) je_7_0 (jp_79_0 hF) ?_
    refine jaL0 (p := 21) rfl jM74 jq74_20 ?_
    refine jiL2 (p := 22) rfl jM74 jq74_21 ?_
    refine jw_callV [(jb_v l2)] jM74 jq74_22 rfl rfl (jo_79 hF) rfl jM69 rfl rfl ?_
    exact h1
theorem jk74_25_2 {d : Nat} {σ : ib_H} {Q : ib_O → Prop} {l1 : Int} {l2 : Int} {l3 : Nat} {s1 : Int} (hF : jb_F σ) (hl1 : jb_r l1) (hl2 : jb_r l2) (hl3 : l3 ≠ 0 → jb_pg σ l3) (hs1 : jb_r s1)
    (h : jb_w d 3 0 [some (.ref 66), some (jb_v s1), none] [] σ (jb_k (d + 1) 74 25 [some (.ref 79), some (jb_v l1), some (jb_v l2), some (.ref l3)] [] Q)) :
    jb_w (d + 1) 74 25 [some (.ref 79), some (jb_v l1), some (jb_v l2), some (.ref l3)] [(jb_v s1), (.ref 66)] σ Q := by
  refine jw_callV [(jb_v s1)] jM74 jq74_25 rfl rfl (jo_66 hF) rfl jM3 rfl rfl ?_
  exact h
theorem jk74_28_2 {d : Nat} {σ : ib_H} {Q : ib_O → Prop} {l1 : Int} {l2 : Int} {l3 : Nat} {s0 : Nat} (hF : jb_F σ) (hl1 : jb_r l1) (hl2 : jb_r l2) (hl3 : l3 ≠ 0 → jb_pg σ l3) (hs0 : s0 ≠ 0 → jb_pg σ s0)
    (h : (s0 = 0 → Q (.inl (some (jb_v l1)), σ)) ∧ (¬ (s0 = 0) → (4 ≤ jb_i σ s0 2 → jb_w d 74 12 [some (.ref 79), some (jb_v l2), some (jb_v (l2 + (-1))), some (.ref s0)] [] σ Q) ∧ (¬ (4 ≤ jb_i σ s0 2) → Q (.inl (some (jb_v l1)), σ)))) :
    jb_w d 74 28 [some (.ref 79), some (jb_v l1), some (jb_v l2), some (.ref l3)] [(.ref s0)] σ Q := by
  refine jaS3 (p := 29) rfl jM74 jq74_28 ?_
  refine jaL3 (p := 30) rfl jM74 jq74_29 ?_
  refine jw_ifnull (p := 33) rfl jM74 jq74_30 (fun c1 => ?_) (fun c1 => ?_)
  · have h1 := h.1 c1
    refine jiL1 (p := 42) rfl jM74 jq74_41 ?_
    exact jw_iret jM74 jq74_42 (fun z => absurd z (by decide)) h1
  · have h1 := h.2 c1
    refine jaL3 (p := 34) rfl jM74 jq74_33 ?_
    refine jw_getI (p := 37) (i := 2) rfl jM74 jq74_34 rfl (hs0 c1).ob jn_4_2 ?_
    refine jw_iconst (p := 38) rfl jM74 jq74_37 ?_
    refine jw_ic (p := 41) rfl jM74 jq74_38 (jc_ge (jb_r_i _ _ _) (jb_rn rfl)) (fun c2 => ?_) (fun c2 => ?_)
    · have h2 := h1.1 c2
      refine jiL2 (p := 44) rfl jM74 jq74_43 ?_
      refine jiS1 (p := 45) rfl jM74 jq74_44 ?_
      refine jiI2 (p := 48) rfl jM74 jq74_45 ?_
      refine jw_goto jM74 jq74_48 ?_
      exact h2
    · have h2 := h1.2 c2
      refine jiL1 (p := 42) rfl jM74 jq74_41 ?_
      exact jw_iret jM74 jq74_42 (fun z => absurd z (by decide)) h2
-- 75 PageLoom$Tree.freePageBehind(I)I
theorem jk75_0 {d : Nat} {σ : ib_H} {Q : ib_O → Prop} {l1 : Int} (hF : jb_F σ) (hl1 : jb_r l1)
    (h : jb_w d 75 4 [some (.ref 79), some (jb_v l1), some (jb_v (l1 + 1))] [] σ Q) :
    jb_w d 75 0 [some (.ref 79), some (jb_v l1), none] [] σ Q := by
  refine jiL1 (p := 1) rfl jM75 jq75_0 ?_
  refine jw_iconst (p := 2) rfl jM75 jq75_1 ?_
  refine jw_iadd (p := 3) rfl jM75 jq75_2 ?_
  refine jiS2 (p := 4) rfl jM75 jq75_3 ?_
  exact h
theorem jk75_4 {d : Nat} {σ : ib_H} {Q : ib_O → Prop} {l1 : Int} {l2 : Int} (hF : jb_F σ) (hl1 : jb_r l1) (hl2 : jb_r l2)
    (h : (24 ≤ l2 → Q (.inl (some (jb_v (-1))), σ)) ∧ (¬ (24 ≤ l2) → jb_w d 4 0 [some (.ref 66), some (jb_v l2), none] [] σ (jb_k (d + 1) 75 15 [some (.ref 79), some (jb_v l1), some (jb_v l2)] [] Q))) :
    jb_w (d + 1) 75 4 [some (.ref 79), some (jb_v l1), some (jb_v l2)] [] σ Q := by
  refine jiL2 (p := 5) rfl jM75 jq75_4 ?_
  refine jw_bipush (p := 7) rfl jM75 jq75_5 (by decide) ?_
  refine jw_ic (p := 10) rfl jM75 jq75_7 (jc_ge hl2 (jb_rn rfl)) (fun c1 => ?_) (fun c1 => ?_)
  · have h1 := h.1 c1
    refine jw_iconst (p := 30) rfl jM75 jq75_29 ?_
    exact jw_iret jM75 jq75_30 (fun z => absurd z (by decide)) h1
  · have h1 := h.2 c1
    refine jaL0 (p := 11) rfl jM75 jq75_10 ?_
    refine jw_getP (p := 14) (i := 0) (q := 66) rfl jM75 jq75_11 rfl (jo_79 hF) je_7_0 (jp_79_0 hF) ?_
    refine jiL2 (p := 15) rfl jM75 jq75_14 ?_
    refine jw_callV [(jb_v l2)] jM75 jq75_15 rfl rfl (jo_66 hF) rfl jM4 rfl rfl ?_
    exact h1
theorem jk75_18 {d : Nat} {σ : ib_H} {Q : ib_O → Prop} {l1 : Int} {l2 : Int} {s0 : Int} (hF : jb_F σ) (hl1 : jb_r l1) (hl2 : jb_r l2) (hs0 : jb_r s0)
    (h : (¬ s0 = 0 → jb_w d 75 4 [some (.ref 79), some (jb_v l1), some (jb_v (l2 + 1))] [] σ Q) ∧ (¬ (¬ s0 = 0) → Q (.inl (some (jb_v l2)), σ))) :
    jb_w d 75 18 [some (.ref 79), some (jb_v l1), some (jb_v l2)] [(jb_v s0)] σ Q := by
  refine jw_if (p := 21) rfl jM75 jq75_18 (jc_ne hs0 jb_r0) (fun c1 => ?_) (fun c1 => ?_)
  · have h1 := h.1 c1
    refine jiI2 (p := 26) rfl jM75 jq75_23 ?_
    refine jw_goto jM75 jq75_26 ?_
    exact h1
  · have h1 := h.2 c1
    refine jiL2 (p := 22) rfl jM75 jq75_21 ?_
    exact jw_iret jM75 jq75_22 (fun z => absurd z (by decide)) h1
-- 76 PageLoom$Tree.pagesSufficeToSplit(I)Z
theorem jk76_0 {d : Nat} {σ : ib_H} {Q : ib_O → Prop} {l1 : Int} (hF : jb_F σ) (hl1 : jb_r l1)
    (h : jb_w d 75 0 [some (.ref 79), some (jb_v 0), none] [] σ (jb_k (d + 1) 76 2 [some (.ref 79), some (jb_v l1), none] [] Q)) :
    jb_w (d + 1) 76 0 [some (.ref 79), some (jb_v l1), none] [] σ Q := by
  refine jaL0 (p := 1) rfl jM76 jq76_0 ?_
  refine jw_iconst (p := 2) rfl jM76 jq76_1 ?_
  refine jw_callV [(jb_v 0)] jM76 jq76_2 rfl rfl (jo_79 hF) rfl jM75 rfl rfl ?_
  exact h
theorem jk76_5 {d : Nat} {σ : ib_H} {Q : ib_O → Prop} {l1 : Int} {s0 : Int} (hF : jb_F σ) (hl1 : jb_r l1) (hs0 : jb_r s0)
    (h : (s0 = (-1) → Q (.inl (some (jb_v 0)), σ)) ∧ (¬ (s0 = (-1)) → (0 < l1 → Q (.inl (some (jb_v 1)), σ)) ∧ (¬ (0 < l1) → jb_w d 75 0 [some (.ref 79), some (jb_v s0), none] [] σ (jb_k (d + 1) 76 17 [some (.ref 79), some (jb_v l1), some (jb_v s0)] [] Q)))) :
    jb_w (d + 1) 76 5 [some (.ref 79), some (jb_v l1), none] [(jb_v s0)] σ Q := by
  refine jiS2 (p := 6) rfl jM76 jq76_5 ?_
  refine jiL2 (p := 7) rfl jM76 jq76_6 ?_
  refine jw_iconst (p := 8) rfl jM76 jq76_7 ?_
  refine jw_ic (p := 11) rfl jM76 jq76_8 (jc_eq hs0 (jb_rn rfl)) (fun c1 => ?_) (fun c1 => ?_)
  · have h1 := h.1 c1
    refine jw_iconst (p := 29) rfl jM76 jq76_28 ?_
    exact jw_iret jM76 jq76_29 (fun _ => Or.inl rfl) h1
  · have h1 := h.2 c1
    refine jiL1 (p := 12) rfl jM76 jq76_11 ?_
    refine jw_if (p := 15) rfl jM76 jq76_12 (jc_gt hl1 jb_r0) (fun c2 => ?_) (fun c2 => ?_)
    · have h2 := h1.1 c2
      refine jw_iconst (p := 25) rfl jM76 jq76_24 ?_
      refine jw_goto jM76 jq76_25 ?_
      exact jw_iret jM76 jq76_29 (fun _ => Or.inr rfl) h2
    · have h2 := h1.2 c2
      refine jaL0 (p := 16) rfl jM76 jq76_15 ?_
      refine jiL2 (p := 17) rfl jM76 jq76_16 ?_
      refine jw_callV [(jb_v s0)] jM76 jq76_17 rfl rfl (jo_79 hF) rfl jM75 rfl rfl ?_
      exact h2
theorem jk76_20 {d : Nat} {σ : ib_H} {Q : ib_O → Prop} {l1 : Int} {l2 : Int} {s0 : Int} (hF : jb_F σ) (hl1 : jb_r l1) (hl2 : jb_r l2) (hs0 : jb_r s0)
    (h : (s0 = (-1) → Q (.inl (some (jb_v 0)), σ)) ∧ (¬ (s0 = (-1)) → Q (.inl (some (jb_v 1)), σ))) :
    jb_w d 76 20 [some (.ref 79), some (jb_v l1), some (jb_v l2)] [(jb_v s0)] σ Q := by
  refine jw_iconst (p := 21) rfl jM76 jq76_20 ?_
  refine jw_ic (p := 24) rfl jM76 jq76_21 (jc_eq hs0 (jb_rn rfl)) (fun c1 => ?_) (fun c1 => ?_)
  · have h1 := h.1 c1
    refine jw_iconst (p := 29) rfl jM76 jq76_28 ?_
    exact jw_iret jM76 jq76_29 (fun _ => Or.inl rfl) h1
  · have h1 := h.2 c1
    refine jw_iconst (p := 25) rfl jM76 jq76_24 ?_
    refine jw_goto jM76 jq76_25 ?_
    exact jw_iret jM76 jq76_29 (fun _ => Or.inr rfl) h1
-- 77 PageLoom$Tree.split(I)Z
theorem jk77_0 {d : Nat} {σ : ib_H} {Q : ib_O → Prop} {l1 : Int} (hF : jb_F σ) (hl1 : jb_r l1)
    (h : jb_w d 69 0 [some (.ref 79), some (jb_v l1)] [] σ (jb_k (d + 1) 77 6 [some (.ref 79), some (jb_v l1), none, none] [(.ref 66)] Q)) :
    jb_w (d + 1) 77 0 [some (.ref 79), some (jb_v l1), none, none] [] σ Q := by
  refine jaL0 (p := 1) rfl jM77 jq77_0 ?_
  refine jw_getP (p := 4) (i := 0) (q := 66) rfl jM77 jq77_1 rfl (jo_79 hF) je_7_0 (jp_79_0 hF) ?_
  refine jaL0 (p := 5) rfl jM77 jq77_4 ?_
  refine jiL1 (p := 6) rfl jM77 jq77_5 ?_
  refine jw_callV [(jb_v l1)] jM77 jq77_6 rfl rfl (jo_79 hF) rfl jM69 rfl rfl ?_
  exact h
theorem jk77_9 {d : Nat} {σ : ib_H} {Q : ib_O → Prop} {l1 : Int} {s1 : Int} (hF : jb_F σ) (hl1 : jb_r l1) (hs1 : jb_r s1)
    (h : jb_w d 3 0 [some (.ref 66), some (jb_v s1), none] [] σ (jb_k (d + 1) 77 9 [some (.ref 79), some (jb_v l1), none, none] [] Q)) :
    jb_w (d + 1) 77 9 [some (.ref 79), some (jb_v l1), none, none] [(jb_v s1), (.ref 66)] σ Q := by
  refine jw_callV [(jb_v s1)] jM77 jq77_9 rfl rfl (jo_66 hF) rfl jM3 rfl rfl ?_
  exact h
theorem jk77_12 {d : Nat} {σ : ib_H} {Q : ib_O → Prop} {l1 : Int} {s0 : Nat} (hF : jb_F σ) (hl1 : jb_r l1) (hs0 : s0 ≠ 0 → jb_pg σ s0)
    (h : jb_w d 20 0 [some (.ref 63), some (jb_v 5), some (jb_v (-1)), none] [] σ (jb_k (d + 1) 77 19 [some (.ref 79), some (jb_v l1), some (.ref s0), none] [] Q)) :
    jb_w (d + 1) 77 12 [some (.ref 79), some (jb_v l1), none, none] [(.ref s0)] σ Q := by
  refine jaS2 (p := 13) rfl jM77 jq77_12 ?_
  refine jaL0 (p := 14) rfl jM77 jq77_13 ?_
  refine jw_getP (p := 17) (i := 1) (q := 63) rfl jM77 jq77_14 rfl (jo_79 hF) je_7_1 (jp_79_1 hF) ?_
  refine jw_iconst (p := 18) rfl jM77 jq77_17 ?_
  refine jw_iconst (p := 19) rfl jM77 jq77_18 ?_
  refine jw_callV [(jb_v 5), (jb_v (-1))] jM77 jq77_19 rfl rfl (jo_63 hF) rfl jM20 rfl rfl ?_
  exact h
theorem jk77_22 {d : Nat} {σ : ib_H} {Q : ib_O → Prop} {l1 : Int} {l2 : Nat} {s0 : Nat} (hF : jb_F σ) (hl1 : jb_r l1) (hl2 : l2 ≠ 0 → jb_pg σ l2) (hs0 : s0 ≠ 0 → jb_rc σ s0)
    (h : (l2 = 0 → Q (.inl (some (jb_v 0)), σ)) ∧ (¬ (l2 = 0) → (¬ s0 = 0 → (¬ l1 = 0 → jb_w d 69 0 [some (.ref 79), some (jb_v l1)] [] σ (jb_k (d + 1) 77 51 [some (.ref 79), some (jb_v l1), some (.ref l2), some (.ref s0)] [(.ref l2), (.ref s0), (.ref 79)] Q)) ∧ (¬ (¬ l1 = 0) → jb_w d 78 0 [some (.ref 79), some (.ref s0), some (.ref l2), none, none, none, none] [] σ (jb_k (d + 1) 77 40 [some (.ref 79), some (jb_v l1), some (.ref l2), some (.ref s0)] [] Q))) ∧ (s0 = 0 → Q (.inl (some (jb_v 0)), σ)))) :
    jb_w (d + 1) 77 22 [some (.ref 79), some (jb_v l1), some (.ref l2), none] [(.ref s0)] σ Q := by
  refine jaS3 (p := 23) rfl jM77 jq77_22 ?_
  refine jaL2 (p := 24) rfl jM77 jq77_23 ?_
  refine jw_ifnull (p := 27) rfl jM77 jq77_24 (fun c1 => ?_) (fun c1 => ?_)
  · have h1 := h.1 c1
    refine jw_iconst (p := 32) rfl jM77 jq77_31 ?_
    exact jw_iret jM77 jq77_32 (fun _ => Or.inl rfl) h1
  · have h1 := h.2 c1
    refine jaL3 (p := 28) rfl jM77 jq77_27 ?_
    refine jw_ifnonnull (p := 31) rfl jM77 jq77_28 (fun c2 => ?_) (fun c2 => ?_)
    · have h2 := h1.1 c2
      refine jiL1 (p := 34) rfl jM77 jq77_33 ?_
      refine jw_if (p := 37) rfl jM77 jq77_34 (jc_ne hl1 jb_r0) (fun c3 => ?_) (fun c3 => ?_)
      · have h3 := h2.1 c3
        refine jaL0 (p := 47) rfl jM77 jq77_46 ?_
        refine jaL3 (p := 48) rfl jM77 jq77_47 ?_
        refine jaL2 (p := 49) rfl jM77 jq77_48 ?_
        refine jaL0 (p := 50) rfl jM77 jq77_49 ?_
        refine jiL1 (p := 51) rfl jM77 jq77_50 ?_
        refine jw_callV [(jb_v l1)] jM77 jq77_51 rfl rfl (jo_79 hF) rfl jM69 rfl rfl ?_
        exact h3
      · have h3 := h2.2 c3
        refine jaL0 (p := 38) rfl jM77 jq77_37 ?_
        refine jaL3 (p := 39) rfl jM77 jq77_38 ?_
        refine jaL2 (p := 40) rfl jM77 jq77_39 ?_
        refine jw_callV [(.ref s0), (.ref l2)] jM77 jq77_40 rfl rfl (jo_79 hF) rfl jM78 rfl rfl ?_
        exact h3
    · have h2 := h1.2 c2
      refine jw_iconst (p := 32) rfl jM77 jq77_31 ?_
      exact jw_iret jM77 jq77_32 (fun _ => Or.inl rfl) h2
theorem jk77_54 {d : Nat} {σ : ib_H} {Q : ib_O → Prop} {l1 : Int} {l2 : Nat} {l3 : Nat} {s1 : Nat} {s2 : Nat} {s3 : Int} (hF : jb_F σ) (hl1 : jb_r l1) (hl2 : l2 ≠ 0 → jb_pg σ l2) (hl3 : l3 ≠ 0 → jb_rc σ l3) (hs1 : s1 ≠ 0 → jb_rc σ s1) (hs2 : s2 ≠ 0 → jb_pg σ s2) (hs3 : jb_r s3)
    (h : jb_w d 69 0 [some (.ref 79), some (jb_v (l1 - 1))] [] σ (jb_k (d + 1) 77 58 [some (.ref 79), some (jb_v l1), some (.ref l2), some (.ref l3)] [(jb_v s3), (.ref s2), (.ref s1), (.ref 79)] Q)) :
    jb_w (d + 1) 77 54 [some (.ref 79), some (jb_v l1), some (.ref l2), some (.ref l3)] [(jb_v s3), (.ref s2), (.ref s1), (.ref 79)] σ Q := by
  refine jaL0 (p := 55) rfl jM77 jq77_54 ?_
  refine jiL1 (p := 56) rfl jM77 jq77_55 ?_
  refine jw_iconst (p := 57) rfl jM77 jq77_56 ?_
  refine jw_isub (p := 58) rfl jM77 jq77_57 ?_
  refine jw_callV [(jb_v (l1 - 1))] jM77 jq77_58 rfl rfl (jo_79 hF) rfl jM69 rfl rfl ?_
  exact h
theorem jk77_43 {d : Nat} {σ : ib_H} {Q : ib_O → Prop} {l1 : Int} {l2 : Nat} {l3 : Nat} (hF : jb_F σ) (hl1 : jb_r l1) (hl2 : l2 ≠ 0 → jb_pg σ l2) (hl3 : l3 ≠ 0 → jb_rc σ l3)
    (h : jb_w d 80 0 [some (.ref 79), some (jb_v (jb_i σ 63 4)), none, none, none, none] [] σ (jb_k (d + 1) 77 72 [some (.ref 79), some (jb_v l1), some (.ref l2), some (.ref l3)] [] Q)) :
    jb_w (d + 1) 77 43 [some (.ref 79), some (jb_v l1), some (.ref l2), some (.ref l3)] [] σ Q := by
  refine jw_goto jM77 jq77_43 ?_
  refine jaL0 (p := 65) rfl jM77 jq77_64 ?_
  refine jaL0 (p := 66) rfl jM77 jq77_65 ?_
  refine jw_getP (p := 69) (i := 1) (q := 63) rfl jM77 jq77_66 rfl (jo_79 hF) je_7_1 (jp_79_1 hF) ?_
  refine jw_getI (p := 72) (i := 4) rfl jM77 jq77_69 rfl (jo_63 hF) jn_2_4 ?_
  refine jw_callV [(jb_v (jb_i σ 63 4))] jM77 jq77_72 rfl rfl (jo_79 hF) rfl jM80 rfl rfl ?_
  exact h
theorem jk77_61 {d : Nat} {σ : ib_H} {Q : ib_O → Prop} {l1 : Int} {l2 : Nat} {l3 : Nat} {s1 : Nat} {s2 : Nat} {s3 : Int} {s4 : Int} (hF : jb_F σ) (hl1 : jb_r l1) (hl2 : l2 ≠ 0 → jb_pg σ l2) (hl3 : l3 ≠ 0 → jb_rc σ l3) (hs1 : s1 ≠ 0 → jb_rc σ s1) (hs2 : s2 ≠ 0 → jb_pg σ s2) (hs3 : jb_r s3) (hs4 : jb_r s4)
    (h : jb_w d 79 0 [some (.ref 79), some (.ref s1), some (.ref s2), some (jb_v s3), some (jb_v s4), none, none, none, none] [] σ (jb_k (d + 1) 77 61 [some (.ref 79), some (jb_v l1), some (.ref l2), some (.ref l3)] [] Q)) :
    jb_w (d + 1) 77 61 [some (.ref 79), some (jb_v l1), some (.ref l2), some (.ref l3)] [(jb_v s4), (jb_v s3), (.ref s2), (.ref s1), (.ref 79)] σ Q := by
  refine jw_callV [(.ref s1), (.ref s2), (jb_v s3), (jb_v s4)] jM77 jq77_61 rfl rfl (jo_79 hF) rfl jM79 rfl rfl ?_
  exact h
theorem jk77_75 {d : Nat} {σ : ib_H} {Q : ib_O → Prop} {l1 : Int} {l2 : Nat} {l3 : Nat} {s0 : Int} (hF : jb_F σ) (hl1 : jb_r l1) (hl2 : l2 ≠ 0 → jb_pg σ l2) (hl3 : l3 ≠ 0 → jb_rc σ l3) (hs0 : jb_r s0)
    (h : (s0 = 0 ∨ s0 = 1) ∧ (Q (.inl (some (jb_v s0)), σ))) :
    jb_w d 77 75 [some (.ref 79), some (jb_v l1), some (.ref l2), some (.ref l3)] [(jb_v s0)] σ Q := by
  obtain ⟨c1, h1⟩ := h
  exact jw_iret jM77 jq77_75 (fun _ => c1) h1
theorem jk77_64 {d : Nat} {σ : ib_H} {Q : ib_O → Prop} {l1 : Int} {l2 : Nat} {l3 : Nat} (hF : jb_F σ) (hl1 : jb_r l1) (hl2 : l2 ≠ 0 → jb_pg σ l2) (hl3 : l3 ≠ 0 → jb_rc σ l3)
    (h : jb_w d 80 0 [some (.ref 79), some (jb_v (jb_i σ 63 4)), none, none, none, none] [] σ (jb_k (d + 1) 77 72 [some (.ref 79), some (jb_v l1), some (.ref l2), some (.ref l3)] [] Q)) :
    jb_w (d + 1) 77 64 [some (.ref 79), some (jb_v l1), some (.ref l2), some (.ref l3)] [] σ Q := by
  refine jaL0 (p := 65) rfl jM77 jq77_64 ?_
  refine jaL0 (p := 66) rfl jM77 jq77_65 ?_
  refine jw_getP (p := 69) (i := 1) (q := 63) rfl jM77 jq77_66 rfl (jo_79 hF) je_7_1 (jp_79_1 hF) ?_
  refine jw_getI (p := 72) (i := 4) rfl jM77 jq77_69 rfl (jo_63 hF) jn_2_4 ?_
  refine jw_callV [(jb_v (jb_i σ 63 4))] jM77 jq77_72 rfl rfl (jo_79 hF) rfl jM80 rfl rfl ?_
  exact h
-- 78 PageLoom$Tree.tellRootSplit(LPageLoom$LogRecord;LPageLoom$Page;)V
theorem jk78_0 {d : Nat} {σ : ib_H} {Q : ib_O → Prop} {l1 : Nat} {l2 : Nat} (hF : jb_F σ) (hl1 : l1 ≠ 0 → jb_rc σ l1) (hl2 : l2 ≠ 0 → jb_pg σ l2)
    (h : (l2 ≠ 0) ∧ ((jb_r ((jb_i σ l2 2) + 1)) ∧ ((0 ≤ ((jb_i σ l2 2) + 1)) ∧ (jb_w d 75 0 [some (.ref 79), some (jb_v 0), none] [] σ (jb_k (d + 1) 78 11 [some (.ref 79), some (.ref l1), some (.ref l2), some (jb_v (((jb_i σ l2 2) + 1) / 2)), none, none, none] [] Q))))) :
    jb_w (d + 1) 78 0 [some (.ref 79), some (.ref l1), some (.ref l2), none, none, none, none] [] σ Q := by
  refine jaL2 (p := 1) rfl jM78 jq78_0 ?_
  obtain ⟨c1, h1⟩ := h
  refine jw_getI (p := 4) (i := 2) rfl jM78 jq78_1 rfl (hl2 c1).ob jn_4_2 ?_
  refine jw_iconst (p := 5) rfl jM78 jq78_4 ?_
  refine jw_iadd (p := 6) rfl jM78 jq78_5 ?_
  refine jw_iconst (p := 7) rfl jM78 jq78_6 ?_
  obtain ⟨c2, h2⟩ := h1
  obtain ⟨c3, h3⟩ := h2
  refine jw_idiv (p := 8) rfl jM78 jq78_7 c3 c2 (by decide) (jb_rn rfl) ?_
  refine jiS3 (p := 9) rfl jM78 jq78_8 ?_
  refine jaL0 (p := 10) rfl jM78 jq78_9 ?_
  refine jw_iconst (p := 11) rfl jM78 jq78_10 ?_
  refine jw_callV [(jb_v 0)] jM78 jq78_11 rfl rfl (jo_79 hF) rfl jM75 rfl rfl ?_
  exact h3
theorem jk78_14 {d : Nat} {σ : ib_H} {Q : ib_O → Prop} {l1 : Nat} {l2 : Nat} {l3 : Int} {s0 : Int} (hF : jb_F σ) (hl1 : l1 ≠ 0 → jb_rc σ l1) (hl2 : l2 ≠ 0 → jb_pg σ l2) (hl3 : jb_r l3) (hs0 : jb_r s0)
    (h : jb_w d 75 0 [some (.ref 79), some (jb_v s0), none] [] σ (jb_k (d + 1) 78 19 [some (.ref 79), some (.ref l1), some (.ref l2), some (jb_v l3), some (jb_v s0), none, none] [] Q)) :
    jb_w (d + 1) 78 14 [some (.ref 79), some (.ref l1), some (.ref l2), some (jb_v l3), none, none, none] [(jb_v s0)] σ Q := by
  refine jiS4 (p := 16) rfl jM78 jq78_14 ?_
  refine jaL0 (p := 17) rfl jM78 jq78_16 ?_
  refine jiL4 (p := 19) rfl jM78 jq78_17 ?_
  refine jw_callV [(jb_v s0)] jM78 jq78_19 rfl rfl (jo_79 hF) rfl jM75 rfl rfl ?_
  exact h
theorem jk78_22 {d : Nat} {σ : ib_H} {Q : ib_O → Prop} {l1 : Nat} {l2 : Nat} {l3 : Int} {l4 : Int} {s0 : Int} (hF : jb_F σ) (hl1 : l1 ≠ 0 → jb_rc σ l1) (hl2 : l2 ≠ 0 → jb_pg σ l2) (hl3 : jb_r l3) (hl4 : jb_r l4) (hs0 : jb_r s0)
    (h : (l1 ≠ 0) ∧ (jb_w d 27 0 [some (.ref l1), some (jb_v 0), none, none] [] σ (jb_k (d + 1) 78 26 [some (.ref 79), some (.ref l1), some (.ref l2), some (jb_v l3), some (jb_v l4), some (jb_v s0), none] [] Q))) :
    jb_w (d + 1) 78 22 [some (.ref 79), some (.ref l1), some (.ref l2), some (jb_v l3), some (jb_v l4), none, none] [(jb_v s0)] σ Q := by
  refine jiS5 (p := 24) rfl jM78 jq78_22 ?_
  refine jaL1 (p := 25) rfl jM78 jq78_24 ?_
  refine jw_iconst (p := 26) rfl jM78 jq78_25 ?_
  obtain ⟨c1, h1⟩ := h
  refine jw_callV [(jb_v 0)] jM78 jq78_26 rfl rfl (hl1 c1).ob rfl jM27 rfl rfl ?_
  exact h1
theorem jk78_29 {d : Nat} {σ : ib_H} {Q : ib_O → Prop} {l1 : Nat} {l2 : Nat} {l3 : Int} {l4 : Int} {l5 : Int} {s0 : Nat} (hF : jb_F σ) (hl1 : l1 ≠ 0 → jb_rc σ l1) (hl2 : l2 ≠ 0 → jb_pg σ l2) (hl3 : jb_r l3) (hl4 : jb_r l4) (hl5 : jb_r l5) (hs0 : s0 ≠ 0 → jb_pg σ s0)
    (h : (s0 ≠ 0) ∧ (jb_w d 34 0 [some (.ref s0), some (jb_v 2)] [] σ (jb_k (d + 1) 78 34 [some (.ref 79), some (.ref l1), some (.ref l2), some (jb_v l3), some (jb_v l4), some (jb_v l5), some (.ref s0)] [] Q))) :
    jb_w (d + 1) 78 29 [some (.ref 79), some (.ref l1), some (.ref l2), some (jb_v l3), some (jb_v l4), some (jb_v l5), none] [(.ref s0)] σ Q := by
  refine jaS6 (p := 31) rfl jM78 jq78_29 ?_
  refine jaL6 (p := 33) rfl jM78 jq78_31 ?_
  refine jw_iconst (p := 34) rfl jM78 jq78_33 ?_
  obtain ⟨c1, h1⟩ := h
  refine jw_callV [(jb_v 2)] jM78 jq78_34 rfl rfl (hs0 c1).ob rfl jM34 rfl rfl ?_
  exact h1
theorem jk78_37 {d : Nat} {σ : ib_H} {Q : ib_O → Prop} {l1 : Nat} {l2 : Nat} {l3 : Int} {l4 : Int} {l5 : Int} {l6 : Nat} (hF : jb_F σ) (hl1 : l1 ≠ 0 → jb_rc σ l1) (hl2 : l2 ≠ 0 → jb_pg σ l2) (hl3 : jb_r l3) (hl4 : jb_r l4) (hl5 : jb_r l5) (hl6 : l6 ≠ 0 → jb_pg σ l6)
    (h : (l6 ≠ 0) ∧ (jb_w d 45 0 [some (.ref l6), some (jb_v 0), some (jb_v (((100 : Int) * 0) + l4)), none] [] σ (jb_k (d + 1) 78 46 [some (.ref 79), some (.ref l1), some (.ref l2), some (jb_v l3), some (jb_v l4), some (jb_v l5), some (.ref l6)] [] Q))) :
    jb_w (d + 1) 78 37 [some (.ref 79), some (.ref l1), some (.ref l2), some (jb_v l3), some (jb_v l4), some (jb_v l5), some (.ref l6)] [] σ Q := by
  refine jaL6 (p := 39) rfl jM78 jq78_37 ?_
  refine jw_iconst (p := 40) rfl jM78 jq78_39 ?_
  refine jw_iconst (p := 41) rfl jM78 jq78_40 ?_
  refine jiL4 (p := 43) rfl jM78 jq78_41 ?_
  refine jw_callS [(jb_v 0), (jb_v l4)] jM78 jq78_43 rfl rfl rfl jM33 rfl rfl ?_
  show jb_w d 33 0 [some (jb_v 0), some (jb_v l4)] [] σ (jb_k (d + 1) 78 43 [some (.ref 79), some (.ref l1), some (.ref l2), some (jb_v l3), some (jb_v l4), some (jb_v l5), some (.ref l6)] [(jb_v 0), (.ref l6)] Q)
  refine jw_bipush (p := 2) rfl jM33 jq33_0 (by decide) ?_
  refine jiL0 (p := 3) rfl jM33 jq33_2 ?_
  refine jw_imul (p := 4) rfl jM33 jq33_3 ?_
  refine jiL1 (p := 5) rfl jM33 jq33_4 ?_
  refine jw_iadd (p := 6) rfl jM33 jq33_5 ?_
  refine jw_iret jM33 jq33_6 (fun z => absurd z (by decide)) ?_
  show jb_w (d + 1) 78 46 [some (.ref 79), some (.ref l1), some (.ref l2), some (jb_v l3), some (jb_v l4), some (jb_v l5), some (.ref l6)] [(jb_v (((100 : Int) * 0) + l4)), (jb_v 0), (.ref l6)] σ Q
  obtain ⟨c1, h1⟩ := h
  refine jw_callV [(jb_v 0), (jb_v (((100 : Int) * 0) + l4))] jM78 jq78_46 rfl rfl (hl6 c1).ob rfl jM45 rfl rfl ?_
  exact h1
theorem jk78_49 {d : Nat} {σ : ib_H} {Q : ib_O → Prop} {l1 : Nat} {l2 : Nat} {l3 : Int} {l4 : Int} {l5 : Int} {l6 : Nat} (hF : jb_F σ) (hl1 : l1 ≠ 0 → jb_rc σ l1) (hl2 : l2 ≠ 0 → jb_pg σ l2) (hl3 : jb_r l3) (hl4 : jb_r l4) (hl5 : jb_r l5) (hl6 : l6 ≠ 0 → jb_pg σ l6)
    (h : (l2 ≠ 0) ∧ (jb_w d 38 0 [some (.ref l2), some (jb_v l3), none] [] σ (jb_k (d + 1) 78 54 [some (.ref 79), some (.ref l1), some (.ref l2), some (jb_v l3), some (jb_v l4), some (jb_v l5), some (.ref l6)] [(jb_v 1), (.ref l6)] Q))) :
    jb_w (d + 1) 78 49 [some (.ref 79), some (.ref l1), some (.ref l2), some (jb_v l3), some (jb_v l4), some (jb_v l5), some (.ref l6)] [] σ Q := by
  refine jaL6 (p := 51) rfl jM78 jq78_49 ?_
  refine jw_iconst (p := 52) rfl jM78 jq78_51 ?_
  refine jaL2 (p := 53) rfl jM78 jq78_52 ?_
  refine jiL3 (p := 54) rfl jM78 jq78_53 ?_
  obtain ⟨c1, h1⟩ := h
  refine jw_callV [(jb_v l3)] jM78 jq78_54 rfl rfl (hl2 c1).ob rfl jM38 rfl rfl ?_
  exact h1
theorem jk78_57 {d : Nat} {σ : ib_H} {Q : ib_O → Prop} {l1 : Nat} {l2 : Nat} {l3 : Int} {l4 : Int} {l5 : Int} {l6 : Nat} {s0 : Nat} {s1 : Int} {s2 : Int} (hF : jb_F σ) (hl1 : l1 ≠ 0 → jb_rc σ l1) (hl2 : l2 ≠ 0 → jb_pg σ l2) (hl3 : jb_r l3) (hl4 : jb_r l4) (hl5 : jb_r l5) (hl6 : l6 ≠ 0 → jb_pg σ l6) (hs0 : s0 ≠ 0 → jb_pg σ s0) (hs1 : jb_r s1) (hs2 : jb_r s2)
    (h : (s0 ≠ 0) ∧ (jb_w d 45 0 [some (.ref s0), some (jb_v s1), some (jb_v ((100 * s2) + l5)), none] [] σ (jb_k (d + 1) 78 62 [some (.ref 79), some (.ref l1), some (.ref l2), some (jb_v l3), some (jb_v l4), some (jb_v l5), some (.ref l6)] [] Q))) :
    jb_w (d + 1) 78 57 [some (.ref 79), some (.ref l1), some (.ref l2), some (jb_v l3), some (jb_v l4), some (jb_v l5), some (.ref l6)] [(jb_v s2), (jb_v s1), (.ref s0)] σ Q := by
  refine jiL5 (p := 59) rfl jM78 jq78_57 ?_
  refine jw_callS [(jb_v s2), (jb_v l5)] jM78 jq78_59 rfl rfl rfl jM33 rfl rfl ?_
  show jb_w d 33 0 [some (jb_v s2), some (jb_v l5)] [] σ (jb_k (d + 1) 78 59 [some (.ref 79), some (.ref l1), some (.ref l2), some (jb_v l3), some (jb_v l4), some (jb_v l5), some (.ref l6)] [(jb_v s1), (.ref s0)] Q)
  refine jw_bipush (p := 2) rfl jM33 jq33_0 (by decide) ?_
  refine jiL0 (p := 3) rfl jM33 jq33_2 ?_
  refine jw_imul (p := 4) rfl jM33 jq33_3 ?_
  refine jiL1 (p := 5) rfl jM33 jq33_4 ?_
  refine jw_iadd (p := 6) rfl jM33 jq33_5 ?_
  refine jw_iret jM33 jq33_6 (fun z => absurd z (by decide)) ?_
  show jb_w (d + 1) 78 62 [some (.ref 79), some (.ref l1), some (.ref l2), some (jb_v l3), some (jb_v l4), some (jb_v l5), some (.ref l6)] [(jb_v ((100 * s2) + l5)), (jb_v s1), (.ref s0)] σ Q
  obtain ⟨c1, h1⟩ := h
  refine jw_callV [(jb_v s1), (jb_v ((100 * s2) + l5))] jM78 jq78_62 rfl rfl (hs0 c1).ob rfl jM45 rfl rfl ?_
  exact h1
theorem jk78_65 {d : Nat} {σ : ib_H} {Q : ib_O → Prop} {l1 : Nat} {l2 : Nat} {l3 : Int} {l4 : Int} {l5 : Int} {l6 : Nat} (hF : jb_F σ) (hl1 : l1 ≠ 0 → jb_rc σ l1) (hl2 : l2 ≠ 0 → jb_pg σ l2) (hl3 : jb_r l3) (hl4 : jb_r l4) (hl5 : jb_r l5) (hl6 : l6 ≠ 0 → jb_pg σ l6)
    (h : (l1 ≠ 0) ∧ (jb_w d 27 0 [some (.ref l1), some (jb_v l4), none, none] [] σ (jb_k (d + 1) 78 68 [some (.ref 79), some (.ref l1), some (.ref l2), some (jb_v l3), some (jb_v l4), some (jb_v l5), some (.ref l6)] [] Q))) :
    jb_w (d + 1) 78 65 [some (.ref 79), some (.ref l1), some (.ref l2), some (jb_v l3), some (jb_v l4), some (jb_v l5), some (.ref l6)] [] σ Q := by
  refine jaL1 (p := 66) rfl jM78 jq78_65 ?_
  refine jiL4 (p := 68) rfl jM78 jq78_66 ?_
  obtain ⟨c1, h1⟩ := h
  refine jw_callV [(jb_v l4)] jM78 jq78_68 rfl rfl (hl1 c1).ob rfl jM27 rfl rfl ?_
  exact h1
theorem jk78_71 {d : Nat} {σ : ib_H} {Q : ib_O → Prop} {l1 : Nat} {l2 : Nat} {l3 : Int} {l4 : Int} {l5 : Int} {l6 : Nat} {s0 : Nat} (hF : jb_F σ) (hl1 : l1 ≠ 0 → jb_rc σ l1) (hl2 : l2 ≠ 0 → jb_pg σ l2) (hl3 : jb_r l3) (hl4 : jb_r l4) (hl5 : jb_r l5) (hl6 : l6 ≠ 0 → jb_pg σ l6) (hs0 : s0 ≠ 0 → jb_pg σ s0)
    (h : (s0 ≠ 0) ∧ (jb_w d 47 0 [some (.ref s0), some (.ref l2), some (jb_v 0), some (jb_v l3), none] [] σ (jb_k (d + 1) 78 74 [some (.ref 79), some (.ref l1), some (.ref l2), some (jb_v l3), some (jb_v l4), some (jb_v l5), some (.ref l6)] [] Q))) :
    jb_w (d + 1) 78 71 [some (.ref 79), some (.ref l1), some (.ref l2), some (jb_v l3), some (jb_v l4), some (jb_v l5), some (.ref l6)] [(.ref s0)] σ Q := by
  refine jaL2 (p := 72) rfl jM78 jq78_71 ?_
  refine jw_iconst (p := 73) rfl jM78 jq78_72 ?_
  refine jiL3 (p := 74) rfl jM78 jq78_73 ?_
  obtain ⟨c1, h1⟩ := h
  refine jw_callV [(.ref l2), (jb_v 0), (jb_v l3)] jM78 jq78_74 rfl rfl (hs0 c1).ob rfl jM47 rfl rfl ?_
  exact h1
theorem jk78_77 {d : Nat} {σ : ib_H} {Q : ib_O → Prop} {l1 : Nat} {l2 : Nat} {l3 : Int} {l4 : Int} {l5 : Int} {l6 : Nat} (hF : jb_F σ) (hl1 : l1 ≠ 0 → jb_rc σ l1) (hl2 : l2 ≠ 0 → jb_pg σ l2) (hl3 : jb_r l3) (hl4 : jb_r l4) (hl5 : jb_r l5) (hl6 : l6 ≠ 0 → jb_pg σ l6)
    (h : (l1 ≠ 0) ∧ (jb_w d 27 0 [some (.ref l1), some (jb_v l5), none, none] [] σ (jb_k (d + 1) 78 80 [some (.ref 79), some (.ref l1), some (.ref l2), some (jb_v l3), some (jb_v l4), some (jb_v l5), some (.ref l6)] [] Q))) :
    jb_w (d + 1) 78 77 [some (.ref 79), some (.ref l1), some (.ref l2), some (jb_v l3), some (jb_v l4), some (jb_v l5), some (.ref l6)] [] σ Q := by
  refine jaL1 (p := 78) rfl jM78 jq78_77 ?_
  refine jiL5 (p := 80) rfl jM78 jq78_78 ?_
  obtain ⟨c1, h1⟩ := h
  refine jw_callV [(jb_v l5)] jM78 jq78_80 rfl rfl (hl1 c1).ob rfl jM27 rfl rfl ?_
  exact h1
theorem jk78_83 {d : Nat} {σ : ib_H} {Q : ib_O → Prop} {l1 : Nat} {l2 : Nat} {l3 : Int} {l4 : Int} {l5 : Int} {l6 : Nat} {s0 : Nat} (hF : jb_F σ) (hl1 : l1 ≠ 0 → jb_rc σ l1) (hl2 : l2 ≠ 0 → jb_pg σ l2) (hl3 : jb_r l3) (hl4 : jb_r l4) (hl5 : jb_r l5) (hl6 : l6 ≠ 0 → jb_pg σ l6) (hs0 : s0 ≠ 0 → jb_pg σ s0)
    (h : (l2 ≠ 0) ∧ ((s0 ≠ 0) ∧ (jb_w d 47 0 [some (.ref s0), some (.ref l2), some (jb_v l3), some (jb_v (jb_i σ l2 2)), none] [] σ (jb_k (d + 1) 78 89 [some (.ref 79), some (.ref l1), some (.ref l2), some (jb_v l3), some (jb_v l4), some (jb_v l5), some (.ref l6)] [] Q)))) :
    jb_w (d + 1) 78 83 [some (.ref 79), some (.ref l1), some (.ref l2), some (jb_v l3), some (jb_v l4), some (jb_v l5), some (.ref l6)] [(.ref s0)] σ Q := by
  refine jaL2 (p := 84) rfl jM78 jq78_83 ?_
  refine jiL3 (p := 85) rfl jM78 jq78_84 ?_
  refine jaL2 (p := 86) rfl jM78 jq78_85 ?_
  obtain ⟨c1, h1⟩ := h
  refine jw_getI (p := 89) (i := 2) rfl jM78 jq78_86 rfl (hl2 c1).ob jn_4_2 ?_
  obtain ⟨c2, h2⟩ := h1
  refine jw_callV [(.ref l2), (jb_v l3), (jb_v (jb_i σ l2 2))] jM78 jq78_89 rfl rfl (hs0 c2).ob rfl jM47 rfl rfl ?_
  exact h2
theorem jk78_92 {d : Nat} {σ : ib_H} {Q : ib_O → Prop} {l1 : Nat} {l2 : Nat} {l3 : Int} {l4 : Int} {l5 : Int} {l6 : Nat} (hF : jb_F σ) (hl1 : l1 ≠ 0 → jb_rc σ l1) (hl2 : l2 ≠ 0 → jb_pg σ l2) (hl3 : jb_r l3) (hl4 : jb_r l4) (hl5 : jb_r l5) (hl6 : l6 ≠ 0 → jb_pg σ l6)
    (h : Q (.inl none, σ)) :
    jb_w d 78 92 [some (.ref 79), some (.ref l1), some (.ref l2), some (jb_v l3), some (jb_v l4), some (jb_v l5), some (.ref l6)] [] σ Q := by
  exact jw_vret jM78 jq78_92 h
-- 79 PageLoom$Tree.tellSplit(LPageLoom$LogRecord;LPageLoom$Page;II)V
theorem jk79_0 {d : Nat} {σ : ib_H} {Q : ib_O → Prop} {l1 : Nat} {l2 : Nat} {l3 : Int} {l4 : Int} (hF : jb_F σ) (hl1 : l1 ≠ 0 → jb_rc σ l1) (hl2 : l2 ≠ 0 → jb_pg σ l2) (hl3 : jb_r l3) (hl4 : jb_r l4)
    (h : (l2 ≠ 0) ∧ ((jb_r ((jb_i σ l2 2) + 1)) ∧ ((0 ≤ ((jb_i σ l2 2) + 1)) ∧ (jb_w d 75 0 [some (.ref 79), some (jb_v 0), none] [] σ (jb_k (d + 1) 79 12 [some (.ref 79), some (.ref l1), some (.ref l2), some (jb_v l3), some (jb_v l4), some (jb_v (((jb_i σ l2 2) + 1) / 2)), none, none, none] [] Q))))) :
    jb_w (d + 1) 79 0 [some (.ref 79), some (.ref l1), some (.ref l2), some (jb_v l3), some (jb_v l4), none, none, none, none] [] σ Q := by
  refine jaL2 (p := 1) rfl jM79 jq79_0 ?_
  obtain ⟨c1, h1⟩ := h
  refine jw_getI (p := 4) (i := 2) rfl jM79 jq79_1 rfl (hl2 c1).ob jn_4_2 ?_
  refine jw_iconst (p := 5) rfl jM79 jq79_4 ?_
  refine jw_iadd (p := 6) rfl jM79 jq79_5 ?_
  refine jw_iconst (p := 7) rfl jM79 jq79_6 ?_
  obtain ⟨c2, h2⟩ := h1
  obtain ⟨c3, h3⟩ := h2
  refine jw_idiv (p := 8) rfl jM79 jq79_7 c3 c2 (by decide) (jb_rn rfl) ?_
  refine jiS5 (p := 10) rfl jM79 jq79_8 ?_
  refine jaL0 (p := 11) rfl jM79 jq79_10 ?_
  refine jw_iconst (p := 12) rfl jM79 jq79_11 ?_
  refine jw_callV [(jb_v 0)] jM79 jq79_12 rfl rfl (jo_79 hF) rfl jM75 rfl rfl ?_
  exact h3
theorem jk79_15 {d : Nat} {σ : ib_H} {Q : ib_O → Prop} {l1 : Nat} {l2 : Nat} {l3 : Int} {l4 : Int} {l5 : Int} {s0 : Int} (hF : jb_F σ) (hl1 : l1 ≠ 0 → jb_rc σ l1) (hl2 : l2 ≠ 0 → jb_pg σ l2) (hl3 : jb_r l3) (hl4 : jb_r l4) (hl5 : jb_r l5) (hs0 : jb_r s0)
    (h : jb_w d 3 0 [some (.ref 66), some (jb_v l4), none] [] σ (jb_k (d + 1) 79 23 [some (.ref 79), some (.ref l1), some (.ref l2), some (jb_v l3), some (jb_v l4), some (jb_v l5), some (jb_v s0), none, none] [] Q)) :
    jb_w (d + 1) 79 15 [some (.ref 79), some (.ref l1), some (.ref l2), some (jb_v l3), some (jb_v l4), some (jb_v l5), none, none, none] [(jb_v s0)] σ Q := by
  refine jiS6 (p := 17) rfl jM79 jq79_15 ?_
  refine jaL0 (p := 18) rfl jM79 jq79_17 ?_
  refine jw_getP (p := 21) (i := 0) (q := 66) rfl jM79 jq79_18 rfl (jo_79 hF) je_7_0 (jp_79_0 hF) ?_
  refine jiL4 (p := 23) rfl jM79 jq79_21 ?_
  refine jw_callV [(jb_v l4)] jM79 jq79_23 rfl rfl (jo_66 hF) rfl jM3 rfl rfl ?_
  exact h
theorem jk79_26 {d : Nat} {σ : ib_H} {Q : ib_O → Prop} {l1 : Nat} {l2 : Nat} {l3 : Int} {l4 : Int} {l5 : Int} {l6 : Int} {s0 : Nat} (hF : jb_F σ) (hl1 : l1 ≠ 0 → jb_rc σ l1) (hl2 : l2 ≠ 0 → jb_pg σ l2) (hl3 : jb_r l3) (hl4 : jb_r l4) (hl5 : jb_r l5) (hl6 : jb_r l6) (hs0 : s0 ≠ 0 → jb_pg σ s0)
    (h : (¬ s0 = 0 → (l1 ≠ 0) ∧ (jb_w d 27 0 [some (.ref l1), some (jb_v l4), none, none] [] σ (jb_k (d + 1) 79 37 [some (.ref 79), some (.ref l1), some (.ref l2), some (jb_v l3), some (jb_v l4), some (jb_v l5), some (jb_v l6), some (.ref s0), none] [] Q))) ∧ (s0 = 0 → Q (.inl none, σ))) :
    jb_w (d + 1) 79 26 [some (.ref 79), some (.ref l1), some (.ref l2), some (jb_v l3), some (jb_v l4), some (jb_v l5), some (jb_v l6), none, none] [(.ref s0)] σ Q := by
  refine jaS7 (p := 28) rfl jM79 jq79_26 ?_
  refine jaL7 (p := 30) rfl jM79 jq79_28 ?_
  refine jw_ifnonnull (p := 33) rfl jM79 jq79_30 (fun c1 => ?_) (fun c1 => ?_)
  · have h1 := h.1 c1
    refine jaL1 (p := 35) rfl jM79 jq79_34 ?_
    refine jiL4 (p := 37) rfl jM79 jq79_35 ?_
    obtain ⟨c2, h2⟩ := h1
    refine jw_callV [(jb_v l4)] jM79 jq79_37 rfl rfl (hl1 c2).ob rfl jM27 rfl rfl ?_
    exact h2
  · have h1 := h.2 c1
    exact jw_vret jM79 jq79_33 h1
theorem jk79_40 {d : Nat} {σ : ib_H} {Q : ib_O → Prop} {l1 : Nat} {l2 : Nat} {l3 : Int} {l4 : Int} {l5 : Int} {l6 : Int} {l7 : Nat} {s0 : Nat} (hF : jb_F σ) (hl1 : l1 ≠ 0 → jb_rc σ l1) (hl2 : l2 ≠ 0 → jb_pg σ l2) (hl3 : jb_r l3) (hl4 : jb_r l4) (hl5 : jb_r l5) (hl6 : jb_r l6) (hl7 : l7 ≠ 0 → jb_pg σ l7) (hs0 : s0 ≠ 0 → jb_pg σ s0)
    (h : (s0 ≠ 0) ∧ (jb_w d 35 0 [some (.ref s0), some (.ref l7), none] [] σ (jb_k (d + 1) 79 46 [some (.ref 79), some (.ref l1), some (.ref l2), some (jb_v l3), some (jb_v l4), some (jb_v l5), some (jb_v l6), some (.ref l7), some (.ref s0)] [] Q))) :
    jb_w (d + 1) 79 40 [some (.ref 79), some (.ref l1), some (.ref l2), some (jb_v l3), some (jb_v l4), some (jb_v l5), some (jb_v l6), some (.ref l7), none] [(.ref s0)] σ Q := by
  refine jaS8 (p := 42) rfl jM79 jq79_40 ?_
  refine jaL8 (p := 44) rfl jM79 jq79_42 ?_
  refine jaL7 (p := 46) rfl jM79 jq79_44 ?_
  obtain ⟨c1, h1⟩ := h
  refine jw_callV [(.ref l7)] jM79 jq79_46 rfl rfl (hs0 c1).ob rfl jM35 rfl rfl ?_
  exact h1
theorem jk79_49 {d : Nat} {σ : ib_H} {Q : ib_O → Prop} {l1 : Nat} {l2 : Nat} {l3 : Int} {l4 : Int} {l5 : Int} {l6 : Int} {l7 : Nat} {l8 : Nat} (hF : jb_F σ) (hl1 : l1 ≠ 0 → jb_rc σ l1) (hl2 : l2 ≠ 0 → jb_pg σ l2) (hl3 : jb_r l3) (hl4 : jb_r l4) (hl5 : jb_r l5) (hl6 : jb_r l6) (hl7 : l7 ≠ 0 → jb_pg σ l7) (hl8 : l8 ≠ 0 → jb_pg σ l8)
    (h : (l7 ≠ 0) ∧ (jb_w d 41 0 [some (.ref l7), some (jb_v l3), none] [] σ (jb_k (d + 1) 79 54 [some (.ref 79), some (.ref l1), some (.ref l2), some (jb_v l3), some (jb_v l4), some (jb_v l5), some (jb_v l6), some (.ref l7), some (.ref l8)] [(.ref l8)] Q))) :
    jb_w (d + 1) 79 49 [some (.ref 79), some (.ref l1), some (.ref l2), some (jb_v l3), some (jb_v l4), some (jb_v l5), some (jb_v l6), some (.ref l7), some (.ref l8)] [] σ Q := by
  refine jaL8 (p := 51) rfl jM79 jq79_49 ?_
  refine jaL7 (p := 53) rfl jM79 jq79_51 ?_
  refine jiL3 (p := 54) rfl jM79 jq79_53 ?_
  obtain ⟨c1, h1⟩ := h
  refine jw_callV [(jb_v l3)] jM79 jq79_54 rfl rfl (hl7 c1).ob rfl jM41 rfl rfl ?_
  exact h1
theorem jk79_57 {d : Nat} {σ : ib_H} {Q : ib_O → Prop} {l1 : Nat} {l2 : Nat} {l3 : Int} {l4 : Int} {l5 : Int} {l6 : Int} {l7 : Nat} {l8 : Nat} {s0 : Nat} {s1 : Int} (hF : jb_F σ) (hl1 : l1 ≠ 0 → jb_rc σ l1) (hl2 : l2 ≠ 0 → jb_pg σ l2) (hl3 : jb_r l3) (hl4 : jb_r l4) (hl5 : jb_r l5) (hl6 : jb_r l6) (hl7 : l7 ≠ 0 → jb_pg σ l7) (hl8 : l8 ≠ 0 → jb_pg σ l8) (hs0 : s0 ≠ 0 → jb_pg σ s0) (hs1 : jb_r s1)
    (h : (l2 ≠ 0) ∧ (jb_w d 38 0 [some (.ref l2), some (jb_v l5), none] [] σ (jb_k (d + 1) 79 62 [some (.ref 79), some (.ref l1), some (.ref l2), some (jb_v l3), some (jb_v l4), some (jb_v l5), some (jb_v l6), some (.ref l7), some (.ref l8)] [(jb_v (s1 + 1)), (.ref s0)] Q))) :
    jb_w (d + 1) 79 57 [some (.ref 79), some (.ref l1), some (.ref l2), some (jb_v l3), some (jb_v l4), some (jb_v l5), some (jb_v l6), some (.ref l7), some (.ref l8)] [(jb_v s1), (.ref s0)] σ Q := by
  refine jw_iconst (p := 58) rfl jM79 jq79_57 ?_
  refine jw_iadd (p := 59) rfl jM79 jq79_58 ?_
  refine jaL2 (p := 60) rfl jM79 jq79_59 ?_
  refine jiL5 (p := 62) rfl jM79 jq79_60 ?_
  obtain ⟨c1, h1⟩ := h
  refine jw_callV [(jb_v l5)] jM79 jq79_62 rfl rfl (hl2 c1).ob rfl jM38 rfl rfl ?_
  exact h1
theorem jk79_65 {d : Nat} {σ : ib_H} {Q : ib_O → Prop} {l1 : Nat} {l2 : Nat} {l3 : Int} {l4 : Int} {l5 : Int} {l6 : Int} {l7 : Nat} {l8 : Nat} {s0 : Nat} {s1 : Int} {s2 : Int} (hF : jb_F σ) (hl1 : l1 ≠ 0 → jb_rc σ l1) (hl2 : l2 ≠ 0 → jb_pg σ l2) (hl3 : jb_r l3) (hl4 : jb_r l4) (hl5 : jb_r l5) (hl6 : jb_r l6) (hl7 : l7 ≠ 0 → jb_pg σ l7) (hl8 : l8 ≠ 0 → jb_pg σ l8) (hs0 : s0 ≠ 0 → jb_pg σ s0) (hs1 : jb_r s1) (hs2 : jb_r s2)
    (h : (s0 ≠ 0) ∧ (jb_w d 45 0 [some (.ref s0), some (jb_v s1), some (jb_v ((100 * s2) + l6)), none] [] σ (jb_k (d + 1) 79 70 [some (.ref 79), some (.ref l1), some (.ref l2), some (jb_v l3), some (jb_v l4), some (jb_v l5), some (jb_v l6), some (.ref l7), some (.ref l8)] [] Q))) :
    jb_w (d + 1) 79 65 [some (.ref 79), some (.ref l1), some (.ref l2), some (jb_v l3), some (jb_v l4), some (jb_v l5), some (jb_v l6), some (.ref l7), some (.ref l8)] [(jb_v s2), (jb_v s1), (.ref s0)] σ Q := by
  refine jiL6 (p := 67) rfl jM79 jq79_65 ?_
  refine jw_callS [(jb_v s2), (jb_v l6)] jM79 jq79_67 rfl rfl rfl jM33 rfl rfl ?_
  show jb_w d 33 0 [some (jb_v s2), some (jb_v l6)] [] σ (jb_k (d + 1) 79 67 [some (.ref 79), some (.ref l1), some (.ref l2), some (jb_v l3), some (jb_v l4), some (jb_v l5), some (jb_v l6), some (.ref l7), some (.ref l8)] [(jb_v s1), (.ref s0)] Q)
  refine jw_bipush (p := 2) rfl jM33 jq33_0 (by decide) ?_
  refine jiL0 (p := 3) rfl jM33 jq33_2 ?_
  refine jw_imul (p := 4) rfl jM33 jq33_3 ?_
  refine jiL1 (p := 5) rfl jM33 jq33_4 ?_
  refine jw_iadd (p := 6) rfl jM33 jq33_5 ?_
  refine jw_iret jM33 jq33_6 (fun z => absurd z (by decide)) ?_
  show jb_w (d + 1) 79 70 [some (.ref 79), some (.ref l1), some (.ref l2), some (jb_v l3), some (jb_v l4), some (jb_v l5), some (jb_v l6), some (.ref l7), some (.ref l8)] [(jb_v ((100 * s2) + l6)), (jb_v s1), (.ref s0)] σ Q
  obtain ⟨c1, h1⟩ := h
  refine jw_callV [(jb_v s1), (jb_v ((100 * s2) + l6))] jM79 jq79_70 rfl rfl (hs0 c1).ob rfl jM45 rfl rfl ?_
  exact h1
theorem jk79_73 {d : Nat} {σ : ib_H} {Q : ib_O → Prop} {l1 : Nat} {l2 : Nat} {l3 : Int} {l4 : Int} {l5 : Int} {l6 : Int} {l7 : Nat} {l8 : Nat} (hF : jb_F σ) (hl1 : l1 ≠ 0 → jb_rc σ l1) (hl2 : l2 ≠ 0 → jb_pg σ l2) (hl3 : jb_r l3) (hl4 : jb_r l4) (hl5 : jb_r l5) (hl6 : jb_r l6) (hl7 : l7 ≠ 0 → jb_pg σ l7) (hl8 : l8 ≠ 0 → jb_pg σ l8)
    (h : (l1 ≠ 0) ∧ (jb_w d 27 0 [some (.ref l1), some (jb_v l3), none, none] [] σ (jb_k (d + 1) 79 75 [some (.ref 79), some (.ref l1), some (.ref l2), some (jb_v l3), some (jb_v l4), some (jb_v l5), some (jb_v l6), some (.ref l7), some (.ref l8)] [] Q))) :
    jb_w (d + 1) 79 73 [some (.ref 79), some (.ref l1), some (.ref l2), some (jb_v l3), some (jb_v l4), some (jb_v l5), some (jb_v l6), some (.ref l7), some (.ref l8)] [] σ Q := by
  refine jaL1 (p := 74) rfl jM79 jq79_73 ?_
  refine jiL3 (p := 75) rfl jM79 jq79_74 ?_
  obtain ⟨c1, h1⟩ := h
  refine jw_callV [(jb_v l3)] jM79 jq79_75 rfl rfl (hl1 c1).ob rfl jM27 rfl rfl ?_
  exact h1
theorem jk79_78 {d : Nat} {σ : ib_H} {Q : ib_O → Prop} {l1 : Nat} {l2 : Nat} {l3 : Int} {l4 : Int} {l5 : Int} {l6 : Int} {l7 : Nat} {l8 : Nat} {s0 : Nat} (hF : jb_F σ) (hl1 : l1 ≠ 0 → jb_rc σ l1) (hl2 : l2 ≠ 0 → jb_pg σ l2) (hl3 : jb_r l3) (hl4 : jb_r l4) (hl5 : jb_r l5) (hl6 : jb_r l6) (hl7 : l7 ≠ 0 → jb_pg σ l7) (hl8 : l8 ≠ 0 → jb_pg σ l8) (hs0 : s0 ≠ 0 → jb_pg σ s0)
    (h : (s0 ≠ 0) ∧ (jb_w d 47 0 [some (.ref s0), some (.ref l2), some (jb_v 0), some (jb_v l5), none] [] σ (jb_k (d + 1) 79 82 [some (.ref 79), some (.ref l1), some (.ref l2), some (jb_v l3), some (jb_v l4), some (jb_v l5), some (jb_v l6), some (.ref l7), some (.ref l8)] [] Q))) :
    jb_w (d + 1) 79 78 [some (.ref 79), some (.ref l1), some (.ref l2), some (jb_v l3), some (jb_v l4), some (jb_v l5), some (jb_v l6), some (.ref l7), some (.ref l8)] [(.ref s0)] σ Q := by
  refine jaL2 (p := 79) rfl jM79 jq79_78 ?_
  refine jw_iconst (p := 80) rfl jM79 jq79_79 ?_
  refine jiL5 (p := 82) rfl jM79 jq79_80 ?_
  obtain ⟨c1, h1⟩ := h
  refine jw_callV [(.ref l2), (jb_v 0), (jb_v l5)] jM79 jq79_82 rfl rfl (hs0 c1).ob rfl jM47 rfl rfl ?_
  exact h1
theorem jk79_85 {d : Nat} {σ : ib_H} {Q : ib_O → Prop} {l1 : Nat} {l2 : Nat} {l3 : Int} {l4 : Int} {l5 : Int} {l6 : Int} {l7 : Nat} {l8 : Nat} (hF : jb_F σ) (hl1 : l1 ≠ 0 → jb_rc σ l1) (hl2 : l2 ≠ 0 → jb_pg σ l2) (hl3 : jb_r l3) (hl4 : jb_r l4) (hl5 : jb_r l5) (hl6 : jb_r l6) (hl7 : l7 ≠ 0 → jb_pg σ l7) (hl8 : l8 ≠ 0 → jb_pg σ l8)
    (h : (l1 ≠ 0) ∧ (jb_w d 27 0 [some (.ref l1), some (jb_v l6), none, none] [] σ (jb_k (d + 1) 79 88 [some (.ref 79), some (.ref l1), some (.ref l2), some (jb_v l3), some (jb_v l4), some (jb_v l5), some (jb_v l6), some (.ref l7), some (.ref l8)] [] Q))) :
    jb_w (d + 1) 79 85 [some (.ref 79), some (.ref l1), some (.ref l2), some (jb_v l3), some (jb_v l4), some (jb_v l5), some (jb_v l6), some (.ref l7), some (.ref l8)] [] σ Q := by
  refine jaL1 (p := 86) rfl jM79 jq79_85 ?_
  refine jiL6 (p := 88) rfl jM79 jq79_86 ?_
  obtain ⟨c1, h1⟩ := h
  refine jw_callV [(jb_v l6)] jM79 jq79_88 rfl rfl (hl1 c1).ob rfl jM27 rfl rfl ?_
  exact h1
theorem jk79_91 {d : Nat} {σ : ib_H} {Q : ib_O → Prop} {l1 : Nat} {l2 : Nat} {l3 : Int} {l4 : Int} {l5 : Int} {l6 : Int} {l7 : Nat} {l8 : Nat} {s0 : Nat} (hF : jb_F σ) (hl1 : l1 ≠ 0 → jb_rc σ l1) (hl2 : l2 ≠ 0 → jb_pg σ l2) (hl3 : jb_r l3) (hl4 : jb_r l4) (hl5 : jb_r l5) (hl6 : jb_r l6) (hl7 : l7 ≠ 0 → jb_pg σ l7) (hl8 : l8 ≠ 0 → jb_pg σ l8) (hs0 : s0 ≠ 0 → jb_pg σ s0)
    (h : (l2 ≠ 0) ∧ ((s0 ≠ 0) ∧ (jb_w d 47 0 [some (.ref s0), some (.ref l2), some (jb_v l5), some (jb_v (jb_i σ l2 2)), none] [] σ (jb_k (d + 1) 79 98 [some (.ref 79), some (.ref l1), some (.ref l2), some (jb_v l3), some (jb_v l4), some (jb_v l5), some (jb_v l6), some (.ref l7), some (.ref l8)] [] Q)))) :
    jb_w (d + 1) 79 91 [some (.ref 79), some (.ref l1), some (.ref l2), some (jb_v l3), some (jb_v l4), some (jb_v l5), some (jb_v l6), some (.ref l7), some (.ref l8)] [(.ref s0)] σ Q := by
  refine jaL2 (p := 92) rfl jM79 jq79_91 ?_
  refine jiL5 (p := 94) rfl jM79 jq79_92 ?_
  refine jaL2 (p := 95) rfl jM79 jq79_94 ?_
  obtain ⟨c1, h1⟩ := h
  refine jw_getI (p := 98) (i := 2) rfl jM79 jq79_95 rfl (hl2 c1).ob jn_4_2 ?_
  obtain ⟨c2, h2⟩ := h1
  refine jw_callV [(.ref l2), (jb_v l5), (jb_v (jb_i σ l2 2))] jM79 jq79_98 rfl rfl (hs0 c2).ob rfl jM47 rfl rfl ?_
  exact h2
theorem jk79_101 {d : Nat} {σ : ib_H} {Q : ib_O → Prop} {l1 : Nat} {l2 : Nat} {l3 : Int} {l4 : Int} {l5 : Int} {l6 : Int} {l7 : Nat} {l8 : Nat} (hF : jb_F σ) (hl1 : l1 ≠ 0 → jb_rc σ l1) (hl2 : l2 ≠ 0 → jb_pg σ l2) (hl3 : jb_r l3) (hl4 : jb_r l4) (hl5 : jb_r l5) (hl6 : jb_r l6) (hl7 : l7 ≠ 0 → jb_pg σ l7) (hl8 : l8 ≠ 0 → jb_pg σ l8)
    (h : Q (.inl none, σ)) :
    jb_w d 79 101 [some (.ref 79), some (.ref l1), some (.ref l2), some (jb_v l3), some (jb_v l4), some (jb_v l5), some (jb_v l6), some (.ref l7), some (.ref l8)] [] σ Q := by
  exact jw_vret jM79 jq79_101 h
-- 80 PageLoom$Tree.perform(I)Z
theorem jk80_0 {d : Nat} {σ : ib_H} {Q : ib_O → Prop} {l1 : Int} (hF : jb_F σ) (hl1 : jb_r l1)
    (h : jb_w d 19 0 [some (.ref 63), some (jb_v l1)] [] σ (jb_k (d + 1) 80 5 [some (.ref 79), some (jb_v l1), none, none, none, none] [] Q)) :
    jb_w (d + 1) 80 0 [some (.ref 79), some (jb_v l1), none, none, none, none] [] σ Q := by
  refine jaL0 (p := 1) rfl jM80 jq80_0 ?_
  refine jw_getP (p := 4) (i := 1) (q := 63) rfl jM80 jq80_1 rfl (jo_79 hF) je_7_1 (jp_79_1 hF) ?_
  refine jiL1 (p := 5) rfl jM80 jq80_4 ?_
  refine jw_callV [(jb_v l1)] jM80 jq80_5 rfl rfl (jo_63 hF) rfl jM19 rfl rfl ?_
  exact h
theorem jk80_8 {d : Nat} {σ : ib_H} {Q : ib_O → Prop} {l1 : Int} {s0 : Nat} (hF : jb_F σ) (hl1 : jb_r l1) (hs0 : s0 ≠ 0 → jb_rc σ s0)
    (h : (¬ s0 = 0 → jb_w d 80 17 [some (.ref 79), some (jb_v l1), some (.ref s0), some (jb_v 0), none, none] [] σ Q) ∧ (s0 = 0 → Q (.inl (some (jb_v 0)), σ))) :
    jb_w d 80 8 [some (.ref 79), some (jb_v l1), none, none, none, none] [(.ref s0)] σ Q := by
  refine jaS2 (p := 9) rfl jM80 jq80_8 ?_
  refine jaL2 (p := 10) rfl jM80 jq80_9 ?_
  refine jw_ifnonnull (p := 13) rfl jM80 jq80_10 (fun c1 => ?_) (fun c1 => ?_)
  · have h1 := h.1 c1
    refine jw_iconst (p := 16) rfl jM80 jq80_15 ?_
    refine jiS3 (p := 17) rfl jM80 jq80_16 ?_
    exact h1
  · have h1 := h.2 c1
    refine jw_iconst (p := 14) rfl jM80 jq80_13 ?_
    exact jw_iret jM80 jq80_14 (fun _ => Or.inl rfl) h1
theorem jk80_17 {d : Nat} {σ : ib_H} {Q : ib_O → Prop} {l1 : Int} {l2 : Nat} {l3 : Int} (hF : jb_F σ) (hl1 : jb_r l1) (hl2 : l2 ≠ 0 → jb_rc σ l2) (hl3 : jb_r l3)
    (h : (l2 ≠ 0) ∧ ((jb_i σ l2 8 ≤ l3 → Q (.inl (some (jb_v 1)), σ)) ∧ (¬ (jb_i σ l2 8 ≤ l3) → jb_w d 30 0 [some (.ref l2), some (jb_v l3)] [] σ (jb_k (d + 1) 80 27 [some (.ref 79), some (jb_v l1), some (.ref l2), some (jb_v l3), none, none] [] Q)))) :
    jb_w (d + 1) 80 17 [some (.ref 79), some (jb_v l1), some (.ref l2), some (jb_v l3), none, none] [] σ Q := by
  refine jiL3 (p := 18) rfl jM80 jq80_17 ?_
  refine jaL2 (p := 19) rfl jM80 jq80_18 ?_
  obtain ⟨c1, h1⟩ := h
  refine jw_getI (p := 22) (i := 8) rfl jM80 jq80_19 rfl (hl2 c1).ob jn_3_8 ?_
  refine jw_ic (p := 25) rfl jM80 jq80_22 (jc_ge hl3 (jb_r_i _ _ _)) (fun c2 => ?_) (fun c2 => ?_)
  · have h2 := h1.1 c2
    refine jw_iconst (p := 77) rfl jM80 jq80_76 ?_
    exact jw_iret jM80 jq80_77 (fun _ => Or.inr rfl) h2
  · have h2 := h1.2 c2
    refine jaL2 (p := 26) rfl jM80 jq80_25 ?_
    refine jiL3 (p := 27) rfl jM80 jq80_26 ?_
    refine jw_callV [(jb_v l3)] jM80 jq80_27 rfl rfl (hl2 c1).ob rfl jM30 rfl rfl ?_
    exact h2
theorem jk80_30 {d : Nat} {σ : ib_H} {Q : ib_O → Prop} {l1 : Int} {l2 : Nat} {l3 : Int} {s0 : Int} (hF : jb_F σ) (hl1 : jb_r l1) (hl2 : l2 ≠ 0 → jb_rc σ l2) (hl3 : jb_r l3) (hs0 : jb_r s0)
    (h : jb_w d 5 0 [some (.ref 66), some (jb_v s0), none] [] σ (jb_k (d + 1) 80 38 [some (.ref 79), some (jb_v l1), some (.ref l2), some (jb_v l3), some (jb_v s0), none] [] Q)) :
    jb_w (d + 1) 80 30 [some (.ref 79), some (jb_v l1), some (.ref l2), some (jb_v l3), none, none] [(jb_v s0)] σ Q := by
  refine jiS4 (p := 32) rfl jM80 jq80_30 ?_
  refine jaL0 (p := 33) rfl jM80 jq80_32 ?_
  refine jw_getP (p := 36) (i := 0) (q := 66) rfl jM80 jq80_33 rfl (jo_79 hF) je_7_0 (jp_79_0 hF) ?_
  refine jiL4 (p := 38) rfl jM80 jq80_36 ?_
  refine jw_callV [(jb_v s0)] jM80 jq80_38 rfl rfl (jo_66 hF) rfl jM5 rfl rfl ?_
  exact h
theorem jk80_41 {d : Nat} {σ : ib_H} {Q : ib_O → Prop} {l1 : Int} {l2 : Nat} {l3 : Int} {l4 : Int} {s0 : Int} (hF : jb_F σ) (hl1 : jb_r l1) (hl2 : l2 ≠ 0 → jb_rc σ l2) (hl3 : jb_r l3) (hl4 : jb_r l4) (hs0 : jb_r s0)
    (h : (¬ s0 = 0 → jb_w d 7 0 [some (.ref 66), some (jb_v l4), some (jb_v l1), none] [] σ (jb_k (d + 1) 80 53 [some (.ref 79), some (jb_v l1), some (.ref l2), some (jb_v l3), some (jb_v l4), none] [] Q)) ∧ (¬ (¬ s0 = 0) → Q (.inl (some (jb_v 0)), σ))) :
    jb_w (d + 1) 80 41 [some (.ref 79), some (jb_v l1), some (.ref l2), some (jb_v l3), some (jb_v l4), none] [(jb_v s0)] σ Q := by
  refine jw_if (p := 44) rfl jM80 jq80_41 (jc_ne hs0 jb_r0) (fun c1 => ?_) (fun c1 => ?_)
  · have h1 := h.1 c1
    refine jaL0 (p := 47) rfl jM80 jq80_46 ?_
    refine jw_getP (p := 50) (i := 0) (q := 66) rfl jM80 jq80_47 rfl (jo_79 hF) je_7_0 (jp_79_0 hF) ?_
    refine jiL4 (p := 52) rfl jM80 jq80_50 ?_
    refine jiL1 (p := 53) rfl jM80 jq80_52 ?_
    refine jw_callV [(jb_v l4), (jb_v l1)] jM80 jq80_53 rfl rfl (jo_66 hF) rfl jM7 rfl rfl ?_
    exact h1
  · have h1 := h.2 c1
    refine jw_iconst (p := 45) rfl jM80 jq80_44 ?_
    exact jw_iret jM80 jq80_45 (fun _ => Or.inl rfl) h1
theorem jk80_56 {d : Nat} {σ : ib_H} {Q : ib_O → Prop} {l1 : Int} {l2 : Nat} {l3 : Int} {l4 : Int} {s0 : Nat} (hF : jb_F σ) (hl1 : jb_r l1) (hl2 : l2 ≠ 0 → jb_rc σ l2) (hl3 : jb_r l3) (hl4 : jb_r l4) (hs0 : s0 ≠ 0 → jb_pg σ s0)
    (h : (s0 = 0 → jb_w (d + 1) 80 17 [some (.ref 79), some (jb_v l1), some (.ref l2), some (jb_v (l3 + 1)), some (jb_v l4), some (.ref s0)] [] σ Q) ∧ (¬ (s0 = 0) → (l2 ≠ 0) ∧ (jb_w d 31 0 [some (.ref l2), some (jb_v l3), some (.ref s0), none] [] σ (jb_k (d + 1) 80 67 [some (.ref 79), some (jb_v l1), some (.ref l2), some (jb_v l3), some (jb_v l4), some (.ref s0)] [] Q)))) :
    jb_w (d + 1) 80 56 [some (.ref 79), some (jb_v l1), some (.ref l2), some (jb_v l3), some (jb_v l4), none] [(.ref s0)] σ Q := by
  refine jaS5 (p := 58) rfl jM80 jq80_56 ?_
  refine jaL5 (p := 60) rfl jM80 jq80_58 ?_
  refine jw_ifnull (p := 63) rfl jM80 jq80_60 (fun c1 => ?_) (fun c1 => ?_)
  · have h1 := h.1 c1
    refine jiI3 (p := 73) rfl jM80 jq80_70 ?_
    refine jw_goto jM80 jq80_73 ?_
    exact h1
  · have h1 := h.2 c1
    refine jaL2 (p := 64) rfl jM80 jq80_63 ?_
    refine jiL3 (p := 65) rfl jM80 jq80_64 ?_
    refine jaL5 (p := 67) rfl jM80 jq80_65 ?_
    obtain ⟨c2, h2⟩ := h1
    refine jw_callV [(jb_v l3), (.ref s0)] jM80 jq80_67 rfl rfl (hl2 c2).ob rfl jM31 rfl rfl ?_
    exact h2
theorem jk80_17_2 {d : Nat} {σ : ib_H} {Q : ib_O → Prop} {l1 : Int} {l2 : Nat} {l3 : Int} {l4 : Int} {l5 : Nat} (hF : jb_F σ) (hl1 : jb_r l1) (hl2 : l2 ≠ 0 → jb_rc σ l2) (hl3 : jb_r l3) (hl4 : jb_r l4) (hl5 : l5 ≠ 0 → jb_pg σ l5)
    (h : (l2 ≠ 0) ∧ ((jb_i σ l2 8 ≤ l3 → Q (.inl (some (jb_v 1)), σ)) ∧ (¬ (jb_i σ l2 8 ≤ l3) → jb_w d 30 0 [some (.ref l2), some (jb_v l3)] [] σ (jb_k (d + 1) 80 27 [some (.ref 79), some (jb_v l1), some (.ref l2), some (jb_v l3), some (jb_v l4), some (.ref l5)] [] Q)))) :
    jb_w (d + 1) 80 17 [some (.ref 79), some (jb_v l1), some (.ref l2), some (jb_v l3), some (jb_v l4), some (.ref l5)] [] σ Q := by
  refine jiL3 (p := 18) rfl jM80 jq80_17 ?_
  refine jaL2 (p := 19) rfl jM80 jq80_18 ?_
  obtain ⟨c1, h1⟩ := h
  refine jw_getI (p := 22) (i := 8) rfl jM80 jq80_19 rfl (hl2 c1).ob jn_3_8 ?_
  refine jw_ic (p := 25) rfl jM80 jq80_22 (jc_ge hl3 (jb_r_i _ _ _)) (fun c2 => ?_) (fun c2 => ?_)
  · have h2 := h1.1 c2
    refine jw_iconst (p := 77) rfl jM80 jq80_76 ?_
    exact jw_iret jM80 jq80_77 (fun _ => Or.inr rfl) h2
  · have h2 := h1.2 c2
    refine jaL2 (p := 26) rfl jM80 jq80_25 ?_
    refine jiL3 (p := 27) rfl jM80 jq80_26 ?_
    refine jw_callV [(jb_v l3)] jM80 jq80_27 rfl rfl (hl2 c1).ob rfl jM30 rfl rfl ?_
    exact h2
theorem jk80_70 {d : Nat} {σ : ib_H} {Q : ib_O → Prop} {l1 : Int} {l2 : Nat} {l3 : Int} {l4 : Int} {l5 : Nat} (hF : jb_F σ) (hl1 : jb_r l1) (hl2 : l2 ≠ 0 → jb_rc σ l2) (hl3 : jb_r l3) (hl4 : jb_r l4) (hl5 : l5 ≠ 0 → jb_pg σ l5)
    (h : jb_w d 80 17 [some (.ref 79), some (jb_v l1), some (.ref l2), some (jb_v (l3 + 1)), some (jb_v l4), some (.ref l5)] [] σ Q) :
    jb_w d 80 70 [some (.ref 79), some (jb_v l1), some (.ref l2), some (jb_v l3), some (jb_v l4), some (.ref l5)] [] σ Q := by
  refine jiI3 (p := 73) rfl jM80 jq80_70 ?_
  refine jw_goto jM80 jq80_73 ?_
  exact h
theorem jk80_30_2 {d : Nat} {σ : ib_H} {Q : ib_O → Prop} {l1 : Int} {l2 : Nat} {l3 : Int} {l4 : Int} {l5 : Nat} {s0 : Int} (hF : jb_F σ) (hl1 : jb_r l1) (hl2 : l2 ≠ 0 → jb_rc σ l2) (hl3 : jb_r l3) (hl4 : jb_r l4) (hl5 : l5 ≠ 0 → jb_pg σ l5) (hs0 : jb_r s0)
    (h : jb_w d 5 0 [some (.ref 66), some (jb_v s0), none] [] σ (jb_k (d + 1) 80 38 [some (.ref 79), some (jb_v l1), some (.ref l2), some (jb_v l3), some (jb_v s0), some (.ref l5)] [] Q)) :
    jb_w (d + 1) 80 30 [some (.ref 79), some (jb_v l1), some (.ref l2), some (jb_v l3), some (jb_v l4), some (.ref l5)] [(jb_v s0)] σ Q := by
  refine jiS4 (p := 32) rfl jM80 jq80_30 ?_
  refine jaL0 (p := 33) rfl jM80 jq80_32 ?_
  refine jw_getP (p := 36) (i := 0) (q := 66) rfl jM80 jq80_33 rfl (jo_79 hF) je_7_0 (jp_79_0 hF) ?_
  refine jiL4 (p := 38) rfl jM80 jq80_36 ?_
  refine jw_callV [(jb_v s0)] jM80 jq80_38 rfl rfl (jo_66 hF) rfl jM5 rfl rfl ?_
  exact h
theorem jk80_41_2 {d : Nat} {σ : ib_H} {Q : ib_O → Prop} {l1 : Int} {l2 : Nat} {l3 : Int} {l4 : Int} {l5 : Nat} {s0 : Int} (hF : jb_F σ) (hl1 : jb_r l1) (hl2 : l2 ≠ 0 → jb_rc σ l2) (hl3 : jb_r l3) (hl4 : jb_r l4) (hl5 : l5 ≠ 0 → jb_pg σ l5) (hs0 : jb_r s0)
    (h : (¬ s0 = 0 → jb_w d 7 0 [some (.ref 66), some (jb_v l4), some (jb_v l1), none] [] σ (jb_k (d + 1) 80 53 [some (.ref 79), some (jb_v l1), some (.ref l2), some (jb_v l3), some (jb_v l4), some (.ref l5)] [] Q)) ∧ (¬ (¬ s0 = 0) → Q (.inl (some (jb_v 0)), σ))) :
    jb_w (d + 1) 80 41 [some (.ref 79), some (jb_v l1), some (.ref l2), some (jb_v l3), some (jb_v l4), some (.ref l5)] [(jb_v s0)] σ Q := by
  refine jw_if (p := 44) rfl jM80 jq80_41 (jc_ne hs0 jb_r0) (fun c1 => ?_) (fun c1 => ?_)
  · have h1 := h.1 c1
    refine jaL0 (p := 47) rfl jM80 jq80_46 ?_
    refine jw_getP (p := 50) (i := 0) (q := 66) rfl jM80 jq80_47 rfl (jo_79 hF) je_7_0 (jp_79_0 hF) ?_
    refine jiL4 (p := 52) rfl jM80 jq80_50 ?_
    refine jiL1 (p := 53) rfl jM80 jq80_52 ?_
    refine jw_callV [(jb_v l4), (jb_v l1)] jM80 jq80_53 rfl rfl (jo_66 hF) rfl jM7 rfl rfl ?_
    exact h1
  · have h1 := h.2 c1
    refine jw_iconst (p := 45) rfl jM80 jq80_44 ?_
    exact jw_iret jM80 jq80_45 (fun _ => Or.inl rfl) h1
theorem jk80_56_2 {d : Nat} {σ : ib_H} {Q : ib_O → Prop} {l1 : Int} {l2 : Nat} {l3 : Int} {l4 : Int} {l5 : Nat} {s0 : Nat} (hF : jb_F σ) (hl1 : jb_r l1) (hl2 : l2 ≠ 0 → jb_rc σ l2) (hl3 : jb_r l3) (hl4 : jb_r l4) (hl5 : l5 ≠ 0 → jb_pg σ l5) (hs0 : s0 ≠ 0 → jb_pg σ s0)
    (h : (s0 = 0 → jb_w (d + 1) 80 17 [some (.ref 79), some (jb_v l1), some (.ref l2), some (jb_v (l3 + 1)), some (jb_v l4), some (.ref s0)] [] σ Q) ∧ (¬ (s0 = 0) → (l2 ≠ 0) ∧ (jb_w d 31 0 [some (.ref l2), some (jb_v l3), some (.ref s0), none] [] σ (jb_k (d + 1) 80 67 [some (.ref 79), some (jb_v l1), some (.ref l2), some (jb_v l3), some (jb_v l4), some (.ref s0)] [] Q)))) :
    jb_w (d + 1) 80 56 [some (.ref 79), some (jb_v l1), some (.ref l2), some (jb_v l3), some (jb_v l4), some (.ref l5)] [(.ref s0)] σ Q := by
  refine jaS5 (p := 58) rfl jM80 jq80_56 ?_
  refine jaL5 (p := 60) rfl jM80 jq80_58 ?_
  refine jw_ifnull (p := 63) rfl jM80 jq80_60 (fun c1 => ?_) (fun c1 => ?_)
  · have h1 := h.1 c1
    refine jiI3 (p := 73) rfl jM80 jq80_70 ?_
    refine jw_goto jM80 jq80_73 ?_
    exact h1
  · have h1 := h.2 c1
    refine jaL2 (p := 64) rfl jM80 jq80_63 ?_
    refine jiL3 (p := 65) rfl jM80 jq80_64 ?_
    refine jaL5 (p := 67) rfl jM80 jq80_65 ?_
    obtain ⟨c2, h2⟩ := h1
    refine jw_callV [(jb_v l3), (.ref s0)] jM80 jq80_67 rfl rfl (hl2 c2).ob rfl jM31 rfl rfl ?_
    exact h2
-- 81 PageLoom$Tree.endIsBare()Z
theorem jk81_0 {d : Nat} {σ : ib_H} {Q : ib_O → Prop}  (hF : jb_F σ) 
    (h : jb_w d 70 0 [some (.ref 79)] [] σ (jb_k (d + 1) 81 5 [some (.ref 79), none] [(.ref 66)] Q)) :
    jb_w (d + 1) 81 0 [some (.ref 79), none] [] σ Q := by
  refine jaL0 (p := 1) rfl jM81 jq81_0 ?_
  refine jw_getP (p := 4) (i := 0) (q := 66) rfl jM81 jq81_1 rfl (jo_79 hF) je_7_0 (jp_79_0 hF) ?_
  refine jaL0 (p := 5) rfl jM81 jq81_4 ?_
  refine jw_callV [] jM81 jq81_5 rfl rfl (jo_79 hF) rfl jM70 rfl rfl ?_
  exact h
theorem jk81_8 {d : Nat} {σ : ib_H} {Q : ib_O → Prop} {s1 : Int} (hF : jb_F σ) (hs1 : jb_r s1)
    (h : jb_w d 3 0 [some (.ref 66), some (jb_v s1), none] [] σ (jb_k (d + 1) 81 8 [some (.ref 79), none] [] Q)) :
    jb_w (d + 1) 81 8 [some (.ref 79), none] [(jb_v s1), (.ref 66)] σ Q := by
  refine jw_callV [(jb_v s1)] jM81 jq81_8 rfl rfl (jo_66 hF) rfl jM3 rfl rfl ?_
  exact h
theorem jk81_11 {d : Nat} {σ : ib_H} {Q : ib_O → Prop} {s0 : Nat} (hF : jb_F σ) (hs0 : s0 ≠ 0 → jb_pg σ s0)
    (h : (jb_i σ 79 3 ≤ 0 → Q (.inl (some (jb_v 0)), σ)) ∧ (¬ (jb_i σ 79 3 ≤ 0) → (s0 = 0 → Q (.inl (some (jb_v 0)), σ)) ∧ (¬ (s0 = 0) → jb_w d 36 0 [some (.ref s0)] [] σ (jb_k (d + 1) 81 24 [some (.ref 79), some (.ref s0)] [] Q)))) :
    jb_w (d + 1) 81 11 [some (.ref 79), none] [(.ref s0)] σ Q := by
  refine jaS1 (p := 12) rfl jM81 jq81_11 ?_
  refine jaL0 (p := 13) rfl jM81 jq81_12 ?_
  refine jw_getI (p := 16) (i := 3) rfl jM81 jq81_13 rfl (jo_79 hF) jn_7_3 ?_
  refine jw_if (p := 19) rfl jM81 jq81_16 (jc_le (jb_r_i _ _ _) jb_r0) (fun c1 => ?_) (fun c1 => ?_)
  · have h1 := h.1 c1
    refine jw_iconst (p := 35) rfl jM81 jq81_34 ?_
    exact jw_iret jM81 jq81_35 (fun _ => Or.inl rfl) h1
  · have h1 := h.2 c1
    refine jaL1 (p := 20) rfl jM81 jq81_19 ?_
    refine jw_ifnull (p := 23) rfl jM81 jq81_20 (fun c2 => ?_) (fun c2 => ?_)
    · have h2 := h1.1 c2
      refine jw_iconst (p := 35) rfl jM81 jq81_34 ?_
      exact jw_iret jM81 jq81_35 (fun _ => Or.inl rfl) h2
    · have h2 := h1.2 c2
      refine jaL1 (p := 24) rfl jM81 jq81_23 ?_
      refine jw_callV [] jM81 jq81_24 rfl rfl (hs0 c2).ob rfl jM36 rfl rfl ?_
      exact h2
theorem jk81_27 {d : Nat} {σ : ib_H} {Q : ib_O → Prop} {l1 : Nat} {s0 : Int} (hF : jb_F σ) (hl1 : l1 ≠ 0 → jb_pg σ l1) (hs0 : jb_r s0)
    (h : (s0 = 0 → Q (.inl (some (jb_v 0)), σ)) ∧ (¬ (s0 = 0) → Q (.inl (some (jb_v 1)), σ))) :
    jb_w d 81 27 [some (.ref 79), some (.ref l1)] [(jb_v s0)] σ Q := by
  refine jw_if (p := 30) rfl jM81 jq81_27 (jc_eq hs0 jb_r0) (fun c1 => ?_) (fun c1 => ?_)
  · have h1 := h.1 c1
    refine jw_iconst (p := 35) rfl jM81 jq81_34 ?_
    exact jw_iret jM81 jq81_35 (fun _ => Or.inl rfl) h1
  · have h1 := h.2 c1
    refine jw_iconst (p := 31) rfl jM81 jq81_30 ?_
    refine jw_goto jM81 jq81_31 ?_
    exact jw_iret jM81 jq81_35 (fun _ => Or.inr rfl) h1
-- 82 PageLoom$Tree.stepUp()I
theorem jk82_0 {d : Nat} {σ : ib_H} {Q : ib_O → Prop}  (hF : jb_F σ) 
    (h : (jb_i σ 79 3 ≤ 0 → jb_w d 70 0 [some (.ref 79)] [] σ (jb_k (d + 1) 82 18 [some (.ref 79)] [] Q)) ∧ (¬ (jb_i σ 79 3 ≤ 0) → jb_w d 70 0 [some (.ref 79)] [] (jb_si σ 79 3 ((jb_i σ 79 3) - 1)) (jb_k (d + 1) 82 18 [some (.ref 79)] [] Q))) :
    jb_w (d + 1) 82 0 [some (.ref 79)] [] σ Q := by
  refine jaL0 (p := 1) rfl jM82 jq82_0 ?_
  refine jw_getI (p := 4) (i := 3) rfl jM82 jq82_1 rfl (jo_79 hF) jn_7_3 ?_
  refine jw_if (p := 7) rfl jM82 jq82_4 (jc_le (jb_r_i _ _ _) jb_r0) (fun c1 => ?_) (fun c1 => ?_)
  · have h1 := h.1 c1
    refine jaL0 (p := 18) rfl jM82 jq82_17 ?_
    refine jw_callV [] jM82 jq82_18 rfl rfl (jo_79 hF) rfl jM70 rfl rfl ?_
    exact h1
  · have h1 := h.2 c1
    refine jaL0 (p := 8) rfl jM82 jq82_7 ?_
    refine jw_dupA (p := 9) rfl jM82 jq82_8 ?_
    refine jw_getI (p := 12) (i := 3) rfl jM82 jq82_9 rfl (jo_79 hF) jn_7_3 ?_
    refine jw_iconst (p := 13) rfl jM82 jq82_12 ?_
    refine jw_isub (p := 14) rfl jM82 jq82_13 ?_
    refine jw_putI (p := 17) (i := 3) rfl jM82 jq82_14 rfl (jo_79 hF) (Or.inl jz_7_3) ?_
    refine jaL0 (p := 18) rfl jM82 jq82_17 ?_
    refine jw_callV [] jM82 jq82_18 rfl rfl (jo_79 hF) rfl jM70 rfl rfl ?_
    exact h1
theorem jk82_21 {d : Nat} {σ : ib_H} {Q : ib_O → Prop} {s0 : Int} (hF : jb_F σ) (hs0 : jb_r s0)
    (h : Q (.inl (some (jb_v s0)), σ)) :
    jb_w d 82 21 [some (.ref 79)] [(jb_v s0)] σ Q := by
  exact jw_iret jM82 jq82_21 (fun z => absurd z (by decide)) h
-- 83 PageLoom$Tree.goes(II)Z
theorem jk83_0 {d : Nat} {σ : ib_H} {Q : ib_O → Prop} {l1 : Int} {l2 : Int} (hF : jb_F σ) (hl1 : jb_r l1) (hl2 : jb_r l2)
    (h : (l1 = 0 → jb_w (d + 1) 83 46 [some (.ref 79), some (jb_v l1), some (jb_v l2), some (jb_v 0), none, none] [] σ Q) ∧ (¬ (l1 = 0) → jb_w d 20 0 [some (.ref 63), some (jb_v 6), some (jb_v (-1)), none] [] σ (jb_k (d + 1) 83 11 [some (.ref 79), some (jb_v l1), some (jb_v l2), none, none, none] [] Q))) :
    jb_w (d + 1) 83 0 [some (.ref 79), some (jb_v l1), some (jb_v l2), none, none, none] [] σ Q := by
  refine jiL1 (p := 1) rfl jM83 jq83_0 ?_
  refine jw_if (p := 4) rfl jM83 jq83_1 (jc_eq hl1 jb_r0) (fun c1 => ?_) (fun c1 => ?_)
  · have h1 := h.1 c1
    refine jw_iconst (p := 45) rfl jM83 jq83_44 ?_
    refine jiS3 (p := 46) rfl jM83 jq83_45 ?_
    exact h1
  · have h1 := h.2 c1
    refine jaL0 (p := 5) rfl jM83 jq83_4 ?_
    refine jw_getP (p := 8) (i := 1) (q := 63) rfl jM83 jq83_5 rfl (jo_79 hF) je_7_1 (jp_79_1 hF) ?_
    refine jw_bipush (p := 10) rfl jM83 jq83_8 (by decide) ?_
    refine jw_iconst (p := 11) rfl jM83 jq83_10 ?_
    refine jw_callV [(jb_v 6), (jb_v (-1))] jM83 jq83_11 rfl rfl (jo_63 hF) rfl jM20 rfl rfl ?_
    exact h1
theorem jk83_46 {d : Nat} {σ : ib_H} {Q : ib_O → Prop} {l1 : Int} {l2 : Int} {l3 : Int} (hF : jb_F σ) (hl1 : jb_r l1) (hl2 : jb_r l2) (hl3 : jb_r l3)
    (h : (24 ≤ l3 → Q (.inl (some (jb_v 1)), σ)) ∧ (¬ (24 ≤ l3) → jb_w d 5 0 [some (.ref 66), some (jb_v 0), none] [] σ (jb_k (d + 1) 83 57 [some (.ref 79), some (jb_v l1), some (jb_v l2), some (jb_v l3), none, none] [] Q))) :
    jb_w (d + 1) 83 46 [some (.ref 79), some (jb_v l1), some (jb_v l2), some (jb_v l3), none, none] [] σ Q := by
  refine jiL3 (p := 47) rfl jM83 jq83_46 ?_
  refine jw_bipush (p := 49) rfl jM83 jq83_47 (by decide) ?_
  refine jw_ic (p := 52) rfl jM83 jq83_49 (jc_ge hl3 (jb_rn rfl)) (fun c1 => ?_) (fun c1 => ?_)
  · have h1 := h.1 c1
    refine jw_iconst (p := 143) rfl jM83 jq83_142 ?_
    exact jw_iret jM83 jq83_143 (fun _ => Or.inr rfl) h1
  · have h1 := h.2 c1
    refine jaL0 (p := 53) rfl jM83 jq83_52 ?_
    refine jw_getP (p := 56) (i := 0) (q := 66) rfl jM83 jq83_53 rfl (jo_79 hF) je_7_0 (jp_79_0 hF) ?_
    refine jw_iconst (p := 57) rfl jM83 jq83_56 ?_
    refine jw_callV [(jb_v 0)] jM83 jq83_57 rfl rfl (jo_66 hF) rfl jM5 rfl rfl ?_
    exact h1
theorem jk83_14 {d : Nat} {σ : ib_H} {Q : ib_O → Prop} {l1 : Int} {l2 : Int} {s0 : Nat} (hF : jb_F σ) (hl1 : jb_r l1) (hl2 : jb_r l2) (hs0 : s0 ≠ 0 → jb_rc σ s0)
    (h : (¬ s0 = 0 → jb_w d 84 0 [some (.ref 79), some (.ref s0), some (jb_v l1), some (jb_v l2), none, none] [] σ (jb_k (d + 1) 83 25 [some (.ref 79), some (jb_v l1), some (jb_v l2), some (.ref s0), none, none] [] Q)) ∧ (s0 = 0 → Q (.inl (some (jb_v 0)), σ))) :
    jb_w (d + 1) 83 14 [some (.ref 79), some (jb_v l1), some (jb_v l2), none, none, none] [(.ref s0)] σ Q := by
  refine jaS3 (p := 15) rfl jM83 jq83_14 ?_
  refine jaL3 (p := 16) rfl jM83 jq83_15 ?_
  refine jw_ifnonnull (p := 19) rfl jM83 jq83_16 (fun c1 => ?_) (fun c1 => ?_)
  · have h1 := h.1 c1
    refine jaL0 (p := 22) rfl jM83 jq83_21 ?_
    refine jaL3 (p := 23) rfl jM83 jq83_22 ?_
    refine jiL1 (p := 24) rfl jM83 jq83_23 ?_
    refine jiL2 (p := 25) rfl jM83 jq83_24 ?_
    refine jw_callV [(.ref s0), (jb_v l1), (jb_v l2)] jM83 jq83_25 rfl rfl (jo_79 hF) rfl jM84 rfl rfl ?_
    exact h1
  · have h1 := h.2 c1
    refine jw_iconst (p := 20) rfl jM83 jq83_19 ?_
    exact jw_iret jM83 jq83_20 (fun _ => Or.inl rfl) h1
theorem jk83_60 {d : Nat} {σ : ib_H} {Q : ib_O → Prop} {l1 : Int} {l2 : Int} {l3 : Int} {s0 : Int} (hF : jb_F σ) (hl1 : jb_r l1) (hl2 : jb_r l2) (hl3 : jb_r l3) (hs0 : jb_r s0)
    (h : (¬ s0 = 0 → jb_w d 86 0 [some (.ref 79), none] [] σ (jb_k (d + 1) 83 66 [some (.ref 79), some (jb_v l1), some (jb_v l2), some (jb_v l3), none, none] [] Q)) ∧ (¬ (¬ s0 = 0) → Q (.inl (some (jb_v 0)), σ))) :
    jb_w (d + 1) 83 60 [some (.ref 79), some (jb_v l1), some (jb_v l2), some (jb_v l3), none, none] [(jb_v s0)] σ Q := by
  refine jw_if (p := 63) rfl jM83 jq83_60 (jc_ne hs0 jb_r0) (fun c1 => ?_) (fun c1 => ?_)
  · have h1 := h.1 c1
    refine jaL0 (p := 66) rfl jM83 jq83_65 ?_
    refine jw_callV [] jM83 jq83_66 rfl rfl (jo_79 hF) rfl jM86 rfl rfl ?_
    exact h1
  · have h1 := h.2 c1
    refine jw_iconst (p := 64) rfl jM83 jq83_63 ?_
    exact jw_iret jM83 jq83_64 (fun _ => Or.inl rfl) h1
theorem jk83_28 {d : Nat} {σ : ib_H} {Q : ib_O → Prop} {l1 : Int} {l2 : Int} {l3 : Nat} (hF : jb_F σ) (hl1 : jb_r l1) (hl2 : jb_r l2) (hl3 : l3 ≠ 0 → jb_rc σ l3)
    (h : jb_w d 80 0 [some (.ref 79), some (jb_v (jb_i σ 63 4)), none, none, none, none] [] σ (jb_k (d + 1) 83 36 [some (.ref 79), some (jb_v l1), some (jb_v l2), some (.ref l3), none, none] [] Q)) :
    jb_w (d + 1) 83 28 [some (.ref 79), some (jb_v l1), some (jb_v l2), some (.ref l3), none, none] [] σ Q := by
  refine jaL0 (p := 29) rfl jM83 jq83_28 ?_
  refine jaL0 (p := 30) rfl jM83 jq83_29 ?_
  refine jw_getP (p := 33) (i := 1) (q := 63) rfl jM83 jq83_30 rfl (jo_79 hF) je_7_1 (jp_79_1 hF) ?_
  refine jw_getI (p := 36) (i := 4) rfl jM83 jq83_33 rfl (jo_63 hF) jn_2_4 ?_
  refine jw_callV [(jb_v (jb_i σ 63 4))] jM83 jq83_36 rfl rfl (jo_79 hF) rfl jM80 rfl rfl ?_
  exact h
theorem jk83_69 {d : Nat} {σ : ib_H} {Q : ib_O → Prop} {l1 : Int} {l2 : Int} {l3 : Int} {s0 : Int} (hF : jb_F σ) (hl1 : jb_r l1) (hl2 : jb_r l2) (hl3 : jb_r l3) (hs0 : jb_r s0)
    (h : (¬ s0 = (-1) → jb_w d 5 0 [some (.ref 66), some (jb_v s0), none] [] σ (jb_k (d + 1) 83 85 [some (.ref 79), some (jb_v l1), some (jb_v l2), some (jb_v l3), some (jb_v s0), none] [] Q)) ∧ (¬ (¬ s0 = (-1)) → Q (.inl (some (jb_v 1)), σ))) :
    jb_w (d + 1) 83 69 [some (.ref 79), some (jb_v l1), some (jb_v l2), some (jb_v l3), none, none] [(jb_v s0)] σ Q := by
  refine jiS4 (p := 71) rfl jM83 jq83_69 ?_
  refine jiL4 (p := 73) rfl jM83 jq83_71 ?_
  refine jw_iconst (p := 74) rfl jM83 jq83_73 ?_
  refine jw_ic (p := 77) rfl jM83 jq83_74 (jc_ne hs0 (jb_rn rfl)) (fun c1 => ?_) (fun c1 => ?_)
  · have h1 := h.1 c1
    refine jaL0 (p := 80) rfl jM83 jq83_79 ?_
    refine jw_getP (p := 83) (i := 0) (q := 66) rfl jM83 jq83_80 rfl (jo_79 hF) je_7_0 (jp_79_0 hF) ?_
    refine jiL4 (p := 85) rfl jM83 jq83_83 ?_
    refine jw_callV [(jb_v s0)] jM83 jq83_85 rfl rfl (jo_66 hF) rfl jM5 rfl rfl ?_
    exact h1
  · have h1 := h.2 c1
    refine jw_iconst (p := 78) rfl jM83 jq83_77 ?_
    exact jw_iret jM83 jq83_78 (fun _ => Or.inr rfl) h1
theorem jk83_39 {d : Nat} {σ : ib_H} {Q : ib_O → Prop} {l1 : Int} {l2 : Int} {l3 : Nat} {s0 : Int} (hF : jb_F σ) (hl1 : jb_r l1) (hl2 : jb_r l2) (hl3 : l3 ≠ 0 → jb_rc σ l3) (hs0 : jb_r s0)
    (h : (¬ s0 = 0 → jb_w d 83 46 [some (.ref 79), some (jb_v l1), some (jb_v l2), some (jb_v 0), none, none] [] σ Q) ∧ (¬ (¬ s0 = 0) → Q (.inl (some (jb_v 0)), σ))) :
    jb_w d 83 39 [some (.ref 79), some (jb_v l1), some (jb_v l2), some (.ref l3), none, none] [(jb_v s0)] σ Q := by
  refine jw_if (p := 42) rfl jM83 jq83_39 (jc_ne hs0 jb_r0) (fun c1 => ?_) (fun c1 => ?_)
  · have h1 := h.1 c1
    refine jw_iconst (p := 45) rfl jM83 jq83_44 ?_
    refine jiS3 (p := 46) rfl jM83 jq83_45 ?_
    exact h1
  · have h1 := h.2 c1
    refine jw_iconst (p := 43) rfl jM83 jq83_42 ?_
    exact jw_iret jM83 jq83_43 (fun _ => Or.inl rfl) h1
theorem jk83_88 {d : Nat} {σ : ib_H} {Q : ib_O → Prop} {l1 : Int} {l2 : Int} {l3 : Int} {l4 : Int} {s0 : Int} (hF : jb_F σ) (hl1 : jb_r l1) (hl2 : jb_r l2) (hl3 : jb_r l3) (hl4 : jb_r l4) (hs0 : jb_r s0)
    (h : (¬ s0 = 0 → jb_w d 20 0 [some (.ref 63), some (jb_v 7), some (jb_v (-1)), none] [] σ (jb_k (d + 1) 83 100 [some (.ref 79), some (jb_v l1), some (jb_v l2), some (jb_v l3), some (jb_v l4), none] [] Q)) ∧ (¬ (¬ s0 = 0) → Q (.inl (some (jb_v 0)), σ))) :
    jb_w (d + 1) 83 88 [some (.ref 79), some (jb_v l1), some (jb_v l2), some (jb_v l3), some (jb_v l4), none] [(jb_v s0)] σ Q := by
  refine jw_if (p := 91) rfl jM83 jq83_88 (jc_ne hs0 jb_r0) (fun c1 => ?_) (fun c1 => ?_)
  · have h1 := h.1 c1
    refine jaL0 (p := 94) rfl jM83 jq83_93 ?_
    refine jw_getP (p := 97) (i := 1) (q := 63) rfl jM83 jq83_94 rfl (jo_79 hF) je_7_1 (jp_79_1 hF) ?_
    refine jw_bipush (p := 99) rfl jM83 jq83_97 (by decide) ?_
    refine jw_iconst (p := 100) rfl jM83 jq83_99 ?_
    refine jw_callV [(jb_v 7), (jb_v (-1))] jM83 jq83_100 rfl rfl (jo_63 hF) rfl jM20 rfl rfl ?_
    exact h1
  · have h1 := h.2 c1
    refine jw_iconst (p := 92) rfl jM83 jq83_91 ?_
    exact jw_iret jM83 jq83_92 (fun _ => Or.inl rfl) h1
theorem jk83_103 {d : Nat} {σ : ib_H} {Q : ib_O → Prop} {l1 : Int} {l2 : Int} {l3 : Int} {l4 : Int} {s0 : Nat} (hF : jb_F σ) (hl1 : jb_r l1) (hl2 : jb_r l2) (hl3 : jb_r l3) (hl4 : jb_r l4) (hs0 : s0 ≠ 0 → jb_rc σ s0)
    (h : (¬ s0 = 0 → jb_w d 85 0 [some (.ref 79), some (.ref s0), some (jb_v l4), none] [] σ (jb_k (d + 1) 83 117 [some (.ref 79), some (jb_v l1), some (jb_v l2), some (jb_v l3), some (jb_v l4), some (.ref s0)] [] Q)) ∧ (s0 = 0 → Q (.inl (some (jb_v 0)), σ))) :
    jb_w (d + 1) 83 103 [some (.ref 79), some (jb_v l1), some (jb_v l2), some (jb_v l3), some (jb_v l4), none] [(.ref s0)] σ Q := by
  refine jaS5 (p := 105) rfl jM83 jq83_103 ?_
  refine jaL5 (p := 107) rfl jM83 jq83_105 ?_
  refine jw_ifnonnull (p := 110) rfl jM83 jq83_107 (fun c1 => ?_) (fun c1 => ?_)
  · have h1 := h.1 c1
    refine jaL0 (p := 113) rfl jM83 jq83_112 ?_
    refine jaL5 (p := 115) rfl jM83 jq83_113 ?_
    refine jiL4 (p := 117) rfl jM83 jq83_115 ?_
    refine jw_callV [(.ref s0), (jb_v l4)] jM83 jq83_117 rfl rfl (jo_79 hF) rfl jM85 rfl rfl ?_
    exact h1
  · have h1 := h.2 c1
    refine jw_iconst (p := 111) rfl jM83 jq83_110 ?_
    exact jw_iret jM83 jq83_111 (fun _ => Or.inl rfl) h1
theorem jk83_120 {d : Nat} {σ : ib_H} {Q : ib_O → Prop} {l1 : Int} {l2 : Int} {l3 : Int} {l4 : Int} {l5 : Nat} (hF : jb_F σ) (hl1 : jb_r l1) (hl2 : jb_r l2) (hl3 : jb_r l3) (hl4 : jb_r l4) (hl5 : l5 ≠ 0 → jb_rc σ l5)
    (h : jb_w d 80 0 [some (.ref 79), some (jb_v (jb_i σ 63 4)), none, none, none, none] [] σ (jb_k (d + 1) 83 128 [some (.ref 79), some (jb_v l1), some (jb_v l2), some (jb_v l3), some (jb_v l4), some (.ref l5)] [] Q)) :
    jb_w (d + 1) 83 120 [some (.ref 79), some (jb_v l1), some (jb_v l2), some (jb_v l3), some (jb_v l4), some (.ref l5)] [] σ Q := by
  refine jaL0 (p := 121) rfl jM83 jq83_120 ?_
  refine jaL0 (p := 122) rfl jM83 jq83_121 ?_
  refine jw_getP (p := 125) (i := 1) (q := 63) rfl jM83 jq83_122 rfl (jo_79 hF) je_7_1 (jp_79_1 hF) ?_
  refine jw_getI (p := 128) (i := 4) rfl jM83 jq83_125 rfl (jo_63 hF) jn_2_4 ?_
  refine jw_callV [(jb_v (jb_i σ 63 4))] jM83 jq83_128 rfl rfl (jo_79 hF) rfl jM80 rfl rfl ?_
  exact h
theorem jk83_131 {d : Nat} {σ : ib_H} {Q : ib_O → Prop} {l1 : Int} {l2 : Int} {l3 : Int} {l4 : Int} {l5 : Nat} {s0 : Int} (hF : jb_F σ) (hl1 : jb_r l1) (hl2 : jb_r l2) (hl3 : jb_r l3) (hl4 : jb_r l4) (hl5 : l5 ≠ 0 → jb_rc σ l5) (hs0 : jb_r s0)
    (h : (¬ s0 = 0 → jb_w d 83 46 [some (.ref 79), some (jb_v l1), some (jb_v l2), some (jb_v (l3 + 1)), some (jb_v l4), some (.ref l5)] [] σ Q) ∧ (¬ (¬ s0 = 0) → Q (.inl (some (jb_v 0)), σ))) :
    jb_w d 83 131 [some (.ref 79), some (jb_v l1), some (jb_v l2), some (jb_v l3), some (jb_v l4), some (.ref l5)] [(jb_v s0)] σ Q := by
  refine jw_if (p := 134) rfl jM83 jq83_131 (jc_ne hs0 jb_r0) (fun c1 => ?_) (fun c1 => ?_)
  · have h1 := h.1 c1
    refine jiI3 (p := 139) rfl jM83 jq83_136 ?_
    refine jw_goto jM83 jq83_139 ?_
    exact h1
  · have h1 := h.2 c1
    refine jw_iconst (p := 135) rfl jM83 jq83_134 ?_
    exact jw_iret jM83 jq83_135 (fun _ => Or.inl rfl) h1
theorem jk83_46_2 {d : Nat} {σ : ib_H} {Q : ib_O → Prop} {l1 : Int} {l2 : Int} {l3 : Int} {l4 : Int} {l5 : Nat} (hF : jb_F σ) (hl1 : jb_r l1) (hl2 : jb_r l2) (hl3 : jb_r l3) (hl4 : jb_r l4) (hl5 : l5 ≠ 0 → jb_rc σ l5)
    (h : (24 ≤ l3 → Q (.inl (some (jb_v 1)), σ)) ∧ (¬ (24 ≤ l3) → jb_w d 5 0 [some (.ref 66), some (jb_v 0), none] [] σ (jb_k (d + 1) 83 57 [some (.ref 79), some (jb_v l1), some (jb_v l2), some (jb_v l3), some (jb_v l4), some (.ref l5)] [] Q))) :
    jb_w (d + 1) 83 46 [some (.ref 79), some (jb_v l1), some (jb_v l2), some (jb_v l3), some (jb_v l4), some (.ref l5)] [] σ Q := by
  refine jiL3 (p := 47) rfl jM83 jq83_46 ?_
  refine jw_bipush (p := 49) rfl jM83 jq83_47 (by decide) ?_
  refine jw_ic (p := 52) rfl jM83 jq83_49 (jc_ge hl3 (jb_rn rfl)) (fun c1 => ?_) (fun c1 => ?_)
  · have h1 := h.1 c1
    refine jw_iconst (p := 143) rfl jM83 jq83_142 ?_
    exact jw_iret jM83 jq83_143 (fun _ => Or.inr rfl) h1
  · have h1 := h.2 c1
    refine jaL0 (p := 53) rfl jM83 jq83_52 ?_
    refine jw_getP (p := 56) (i := 0) (q := 66) rfl jM83 jq83_53 rfl (jo_79 hF) je_7_0 (jp_79_0 hF) ?_
    refine jw_iconst (p := 57) rfl jM83 jq83_56 ?_
    refine jw_callV [(jb_v 0)] jM83 jq83_57 rfl rfl (jo_66 hF) rfl jM5 rfl rfl ?_
    exact h1
theorem jk83_60_2 {d : Nat} {σ : ib_H} {Q : ib_O → Prop} {l1 : Int} {l2 : Int} {l3 : Int} {l4 : Int} {l5 : Nat} {s0 : Int} (hF : jb_F σ) (hl1 : jb_r l1) (hl2 : jb_r l2) (hl3 : jb_r l3) (hl4 : jb_r l4) (hl5 : l5 ≠ 0 → jb_rc σ l5) (hs0 : jb_r s0)
    (h : (¬ s0 = 0 → jb_w d 86 0 [some (.ref 79), none] [] σ (jb_k (d + 1) 83 66 [some (.ref 79), some (jb_v l1), some (jb_v l2), some (jb_v l3), some (jb_v l4), some (.ref l5)] [] Q)) ∧ (¬ (¬ s0 = 0) → Q (.inl (some (jb_v 0)), σ))) :
    jb_w (d + 1) 83 60 [some (.ref 79), some (jb_v l1), some (jb_v l2), some (jb_v l3), some (jb_v l4), some (.ref l5)] [(jb_v s0)] σ Q := by
  refine jw_if (p := 63) rfl jM83 jq83_60 (jc_ne hs0 jb_r0) (fun c1 => ?_) (fun c1 => ?_)
  · have h1 := h.1 c1
    refine jaL0 (p := 66) rfl jM83 jq83_65 ?_
    refine jw_callV [] jM83 jq83_66 rfl rfl (jo_79 hF) rfl jM86 rfl rfl ?_
    exact h1
  · have h1 := h.2 c1
    refine jw_iconst (p := 64) rfl jM83 jq83_63 ?_
    exact jw_iret jM83 jq83_64 (fun _ => Or.inl rfl) h1
theorem jk83_69_2 {d : Nat} {σ : ib_H} {Q : ib_O → Prop} {l1 : Int} {l2 : Int} {l3 : Int} {l4 : Int} {l5 : Nat} {s0 : Int} (hF : jb_F σ) (hl1 : jb_r l1) (hl2 : jb_r l2) (hl3 : jb_r l3) (hl4 : jb_r l4) (hl5 : l5 ≠ 0 → jb_rc σ l5) (hs0 : jb_r s0)
    (h : (¬ s0 = (-1) → jb_w d 5 0 [some (.ref 66), some (jb_v s0), none] [] σ (jb_k (d + 1) 83 85 [some (.ref 79), some (jb_v l1), some (jb_v l2), some (jb_v l3), some (jb_v s0), some (.ref l5)] [] Q)) ∧ (¬ (¬ s0 = (-1)) → Q (.inl (some (jb_v 1)), σ))) :
    jb_w (d + 1) 83 69 [some (.ref 79), some (jb_v l1), some (jb_v l2), some (jb_v l3), some (jb_v l4), some (.ref l5)] [(jb_v s0)] σ Q := by
  refine jiS4 (p := 71) rfl jM83 jq83_69 ?_
  refine jiL4 (p := 73) rfl jM83 jq83_71 ?_
  refine jw_iconst (p := 74) rfl jM83 jq83_73 ?_
  refine jw_ic (p := 77) rfl jM83 jq83_74 (jc_ne hs0 (jb_rn rfl)) (fun c1 => ?_) (fun c1 => ?_)
  · have h1 := h.1 c1
    refine jaL0 (p := 80) rfl jM83 jq83_79 ?_
    refine jw_getP (p := 83) (i := 0) (q := 66) rfl jM83 jq83_80 rfl (jo_79 hF) je_7_0 (jp_79_0 hF) ?_
    refine jiL4 (p := 85) rfl jM83 jq83_83 ?_
    refine jw_callV [(jb_v s0)] jM83 jq83_85 rfl rfl (jo_66 hF) rfl jM5 rfl rfl ?_
    exact h1
  · have h1 := h.2 c1
    refine jw_iconst (p := 78) rfl jM83 jq83_77 ?_
    exact jw_iret jM83 jq83_78 (fun _ => Or.inr rfl) h1
theorem jk83_88_2 {d : Nat} {σ : ib_H} {Q : ib_O → Prop} {l1 : Int} {l2 : Int} {l3 : Int} {l4 : Int} {l5 : Nat} {s0 : Int} (hF : jb_F σ) (hl1 : jb_r l1) (hl2 : jb_r l2) (hl3 : jb_r l3) (hl4 : jb_r l4) (hl5 : l5 ≠ 0 → jb_rc σ l5) (hs0 : jb_r s0)
    (h : (¬ s0 = 0 → jb_w d 20 0 [some (.ref 63), some (jb_v 7), some (jb_v (-1)), none] [] σ (jb_k (d + 1) 83 100 [some (.ref 79), some (jb_v l1), some (jb_v l2), some (jb_v l3), some (jb_v l4), some (.ref l5)] [] Q)) ∧ (¬ (¬ s0 = 0) → Q (.inl (some (jb_v 0)), σ))) :
    jb_w (d + 1) 83 88 [some (.ref 79), some (jb_v l1), some (jb_v l2), some (jb_v l3), some (jb_v l4), some (.ref l5)] [(jb_v s0)] σ Q := by
  refine jw_if (p := 91) rfl jM83 jq83_88 (jc_ne hs0 jb_r0) (fun c1 => ?_) (fun c1 => ?_)
  · have h1 := h.1 c1
    refine jaL0 (p := 94) rfl jM83 jq83_93 ?_
    refine jw_getP (p := 97) (i := 1) (q := 63) rfl jM83 jq83_94 rfl (jo_79 hF) je_7_1 (jp_79_1 hF) ?_
    refine jw_bipush (p := 99) rfl jM83 jq83_97 (by decide) ?_
    refine jw_iconst (p := 100) rfl jM83 jq83_99 ?_
    refine jw_callV [(jb_v 7), (jb_v (-1))] jM83 jq83_100 rfl rfl (jo_63 hF) rfl jM20 rfl rfl ?_
    exact h1
  · have h1 := h.2 c1
    refine jw_iconst (p := 92) rfl jM83 jq83_91 ?_
    exact jw_iret jM83 jq83_92 (fun _ => Or.inl rfl) h1
theorem jk83_103_2 {d : Nat} {σ : ib_H} {Q : ib_O → Prop} {l1 : Int} {l2 : Int} {l3 : Int} {l4 : Int} {l5 : Nat} {s0 : Nat} (hF : jb_F σ) (hl1 : jb_r l1) (hl2 : jb_r l2) (hl3 : jb_r l3) (hl4 : jb_r l4) (hl5 : l5 ≠ 0 → jb_rc σ l5) (hs0 : s0 ≠ 0 → jb_rc σ s0)
    (h : (¬ s0 = 0 → jb_w d 85 0 [some (.ref 79), some (.ref s0), some (jb_v l4), none] [] σ (jb_k (d + 1) 83 117 [some (.ref 79), some (jb_v l1), some (jb_v l2), some (jb_v l3), some (jb_v l4), some (.ref s0)] [] Q)) ∧ (s0 = 0 → Q (.inl (some (jb_v 0)), σ))) :
    jb_w (d + 1) 83 103 [some (.ref 79), some (jb_v l1), some (jb_v l2), some (jb_v l3), some (jb_v l4), some (.ref l5)] [(.ref s0)] σ Q := by
  refine jaS5 (p := 105) rfl jM83 jq83_103 ?_
  refine jaL5 (p := 107) rfl jM83 jq83_105 ?_
  refine jw_ifnonnull (p := 110) rfl jM83 jq83_107 (fun c1 => ?_) (fun c1 => ?_)
  · have h1 := h.1 c1
    refine jaL0 (p := 113) rfl jM83 jq83_112 ?_
    refine jaL5 (p := 115) rfl jM83 jq83_113 ?_
    refine jiL4 (p := 117) rfl jM83 jq83_115 ?_
    refine jw_callV [(.ref s0), (jb_v l4)] jM83 jq83_117 rfl rfl (jo_79 hF) rfl jM85 rfl rfl ?_
    exact h1
  · have h1 := h.2 c1
    refine jw_iconst (p := 111) rfl jM83 jq83_110 ?_
    exact jw_iret jM83 jq83_111 (fun _ => Or.inl rfl) h1
-- 84 PageLoom$Tree.tellGo(LPageLoom$LogRecord;II)V
theorem jk84_0 {d : Nat} {σ : ib_H} {Q : ib_O → Prop} {l1 : Nat} {l2 : Int} {l3 : Int} (hF : jb_F σ) (hl1 : l1 ≠ 0 → jb_rc σ l1) (hl2 : jb_r l2) (hl3 : jb_r l3)
    (h : jb_w d 3 0 [some (.ref 66), some (jb_v l3), none] [] σ (jb_k (d + 1) 84 5 [some (.ref 79), some (.ref l1), some (jb_v l2), some (jb_v l3), none, none] [] Q)) :
    jb_w (d + 1) 84 0 [some (.ref 79), some (.ref l1), some (jb_v l2), some (jb_v l3), none, none] [] σ Q := by
  refine jaL0 (p := 1) rfl jM84 jq84_0 ?_
  refine jw_getP (p := 4) (i := 0) (q := 66) rfl jM84 jq84_1 rfl (jo_79 hF) je_7_0 (jp_79_0 hF) ?_
  refine jiL3 (p := 5) rfl jM84 jq84_4 ?_
  refine jw_callV [(jb_v l3)] jM84 jq84_5 rfl rfl (jo_66 hF) rfl jM3 rfl rfl ?_
  exact h
theorem jk84_8 {d : Nat} {σ : ib_H} {Q : ib_O → Prop} {l1 : Nat} {l2 : Int} {l3 : Int} {s0 : Nat} (hF : jb_F σ) (hl1 : l1 ≠ 0 → jb_rc σ l1) (hl2 : jb_r l2) (hl3 : jb_r l3) (hs0 : s0 ≠ 0 → jb_pg σ s0)
    (h : (¬ s0 = 0 → (l1 ≠ 0) ∧ (jb_w d 27 0 [some (.ref l1), some (jb_v l2), none, none] [] σ (jb_k (d + 1) 84 18 [some (.ref 79), some (.ref l1), some (jb_v l2), some (jb_v l3), some (.ref s0), none] [] Q))) ∧ (s0 = 0 → Q (.inl none, σ))) :
    jb_w (d + 1) 84 8 [some (.ref 79), some (.ref l1), some (jb_v l2), some (jb_v l3), none, none] [(.ref s0)] σ Q := by
  refine jaS4 (p := 10) rfl jM84 jq84_8 ?_
  refine jaL4 (p := 12) rfl jM84 jq84_10 ?_
  refine jw_ifnonnull (p := 15) rfl jM84 jq84_12 (fun c1 => ?_) (fun c1 => ?_)
  · have h1 := h.1 c1
    refine jaL1 (p := 17) rfl jM84 jq84_16 ?_
    refine jiL2 (p := 18) rfl jM84 jq84_17 ?_
    obtain ⟨c2, h2⟩ := h1
    refine jw_callV [(jb_v l2)] jM84 jq84_18 rfl rfl (hl1 c2).ob rfl jM27 rfl rfl ?_
    exact h2
  · have h1 := h.2 c1
    exact jw_vret jM84 jq84_15 h1
theorem jk84_21 {d : Nat} {σ : ib_H} {Q : ib_O → Prop} {l1 : Nat} {l2 : Int} {l3 : Int} {l4 : Nat} {s0 : Nat} (hF : jb_F σ) (hl1 : l1 ≠ 0 → jb_rc σ l1) (hl2 : jb_r l2) (hl3 : jb_r l3) (hl4 : l4 ≠ 0 → jb_pg σ l4) (hs0 : s0 ≠ 0 → jb_pg σ s0)
    (h : (s0 ≠ 0) ∧ (jb_w d 34 0 [some (.ref s0), some (jb_v 0)] [] σ (jb_k (d + 1) 84 22 [some (.ref 79), some (.ref l1), some (jb_v l2), some (jb_v l3), some (.ref l4), none] [] Q))) :
    jb_w (d + 1) 84 21 [some (.ref 79), some (.ref l1), some (jb_v l2), some (jb_v l3), some (.ref l4), none] [(.ref s0)] σ Q := by
  refine jw_iconst (p := 22) rfl jM84 jq84_21 ?_
  obtain ⟨c1, h1⟩ := h
  refine jw_callV [(jb_v 0)] jM84 jq84_22 rfl rfl (hs0 c1).ob rfl jM34 rfl rfl ?_
  exact h1
theorem jk84_25 {d : Nat} {σ : ib_H} {Q : ib_O → Prop} {l1 : Nat} {l2 : Int} {l3 : Int} {l4 : Nat} (hF : jb_F σ) (hl1 : l1 ≠ 0 → jb_rc σ l1) (hl2 : jb_r l2) (hl3 : jb_r l3) (hl4 : l4 ≠ 0 → jb_pg σ l4)
    (h : (l1 ≠ 0) ∧ (jb_w d 27 0 [some (.ref l1), some (jb_v l3), none, none] [] σ (jb_k (d + 1) 84 27 [some (.ref 79), some (.ref l1), some (jb_v l2), some (jb_v l3), some (.ref l4), none] [] Q))) :
    jb_w (d + 1) 84 25 [some (.ref 79), some (.ref l1), some (jb_v l2), some (jb_v l3), some (.ref l4), none] [] σ Q := by
  refine jaL1 (p := 26) rfl jM84 jq84_25 ?_
  refine jiL3 (p := 27) rfl jM84 jq84_26 ?_
  obtain ⟨c1, h1⟩ := h
  refine jw_callV [(jb_v l3)] jM84 jq84_27 rfl rfl (hl1 c1).ob rfl jM27 rfl rfl ?_
  exact h1
theorem jk84_30 {d : Nat} {σ : ib_H} {Q : ib_O → Prop} {l1 : Nat} {l2 : Int} {l3 : Int} {l4 : Nat} {s0 : Nat} (hF : jb_F σ) (hl1 : l1 ≠ 0 → jb_rc σ l1) (hl2 : jb_r l2) (hl3 : jb_r l3) (hl4 : l4 ≠ 0 → jb_pg σ l4) (hs0 : s0 ≠ 0 → jb_pg σ s0)
    (h : (s0 ≠ 0) ∧ (jb_w d 35 0 [some (.ref s0), some (.ref l4), none] [] σ (jb_k (d + 1) 84 36 [some (.ref 79), some (.ref l1), some (jb_v l2), some (jb_v l3), some (.ref l4), some (.ref s0)] [] Q))) :
    jb_w (d + 1) 84 30 [some (.ref 79), some (.ref l1), some (jb_v l2), some (jb_v l3), some (.ref l4), none] [(.ref s0)] σ Q := by
  refine jaS5 (p := 32) rfl jM84 jq84_30 ?_
  refine jaL5 (p := 34) rfl jM84 jq84_32 ?_
  refine jaL4 (p := 36) rfl jM84 jq84_34 ?_
  obtain ⟨c1, h1⟩ := h
  refine jw_callV [(.ref l4)] jM84 jq84_36 rfl rfl (hs0 c1).ob rfl jM35 rfl rfl ?_
  exact h1
theorem jk84_39 {d : Nat} {σ : ib_H} {Q : ib_O → Prop} {l1 : Nat} {l2 : Int} {l3 : Int} {l4 : Nat} {l5 : Nat} (hF : jb_F σ) (hl1 : l1 ≠ 0 → jb_rc σ l1) (hl2 : jb_r l2) (hl3 : jb_r l3) (hl4 : l4 ≠ 0 → jb_pg σ l4) (hl5 : l5 ≠ 0 → jb_pg σ l5)
    (h : (l5 ≠ 0) ∧ (jb_w d 48 0 [some (.ref l5), some (jb_v l2)] [] σ (jb_k (d + 1) 84 42 [some (.ref 79), some (.ref l1), some (jb_v l2), some (jb_v l3), some (.ref l4), some (.ref l5)] [] Q))) :
    jb_w (d + 1) 84 39 [some (.ref 79), some (.ref l1), some (jb_v l2), some (jb_v l3), some (.ref l4), some (.ref l5)] [] σ Q := by
  refine jaL5 (p := 41) rfl jM84 jq84_39 ?_
  refine jiL2 (p := 42) rfl jM84 jq84_41 ?_
  obtain ⟨c1, h1⟩ := h
  refine jw_callV [(jb_v l2)] jM84 jq84_42 rfl rfl (hl5 c1).ob rfl jM48 rfl rfl ?_
  exact h1
theorem jk84_45 {d : Nat} {σ : ib_H} {Q : ib_O → Prop} {l1 : Nat} {l2 : Int} {l3 : Int} {l4 : Nat} {l5 : Nat} (hF : jb_F σ) (hl1 : l1 ≠ 0 → jb_rc σ l1) (hl2 : jb_r l2) (hl3 : jb_r l3) (hl4 : l4 ≠ 0 → jb_pg σ l4) (hl5 : l5 ≠ 0 → jb_pg σ l5)
    (h : Q (.inl none, σ)) :
    jb_w d 84 45 [some (.ref 79), some (.ref l1), some (jb_v l2), some (jb_v l3), some (.ref l4), some (.ref l5)] [] σ Q := by
  exact jw_vret jM84 jq84_45 h
-- 85 PageLoom$Tree.tellTakeOver(LPageLoom$LogRecord;I)V
theorem jk85_0 {d : Nat} {σ : ib_H} {Q : ib_O → Prop} {l1 : Nat} {l2 : Int} (hF : jb_F σ) (hl1 : l1 ≠ 0 → jb_rc σ l1) (hl2 : jb_r l2)
    (h : jb_w d 3 0 [some (.ref 66), some (jb_v l2), none] [] σ (jb_k (d + 1) 85 5 [some (.ref 79), some (.ref l1), some (jb_v l2), none] [] Q)) :
    jb_w (d + 1) 85 0 [some (.ref 79), some (.ref l1), some (jb_v l2), none] [] σ Q := by
  refine jaL0 (p := 1) rfl jM85 jq85_0 ?_
  refine jw_getP (p := 4) (i := 0) (q := 66) rfl jM85 jq85_1 rfl (jo_79 hF) je_7_0 (jp_79_0 hF) ?_
  refine jiL2 (p := 5) rfl jM85 jq85_4 ?_
  refine jw_callV [(jb_v l2)] jM85 jq85_5 rfl rfl (jo_66 hF) rfl jM3 rfl rfl ?_
  exact h
theorem jk85_8 {d : Nat} {σ : ib_H} {Q : ib_O → Prop} {l1 : Nat} {l2 : Int} {s0 : Nat} (hF : jb_F σ) (hl1 : l1 ≠ 0 → jb_rc σ l1) (hl2 : jb_r l2) (hs0 : s0 ≠ 0 → jb_pg σ s0)
    (h : (¬ s0 = 0 → (l1 ≠ 0) ∧ (jb_w d 27 0 [some (.ref l1), some (jb_v 0), none, none] [] σ (jb_k (d + 1) 85 16 [some (.ref 79), some (.ref l1), some (jb_v l2), some (.ref s0)] [] Q))) ∧ (s0 = 0 → Q (.inl none, σ))) :
    jb_w (d + 1) 85 8 [some (.ref 79), some (.ref l1), some (jb_v l2), none] [(.ref s0)] σ Q := by
  refine jaS3 (p := 9) rfl jM85 jq85_8 ?_
  refine jaL3 (p := 10) rfl jM85 jq85_9 ?_
  refine jw_ifnonnull (p := 13) rfl jM85 jq85_10 (fun c1 => ?_) (fun c1 => ?_)
  · have h1 := h.1 c1
    refine jaL1 (p := 15) rfl jM85 jq85_14 ?_
    refine jw_iconst (p := 16) rfl jM85 jq85_15 ?_
    obtain ⟨c2, h2⟩ := h1
    refine jw_callV [(jb_v 0)] jM85 jq85_16 rfl rfl (hl1 c2).ob rfl jM27 rfl rfl ?_
    exact h2
  · have h1 := h.2 c1
    exact jw_vret jM85 jq85_13 h1
theorem jk85_19 {d : Nat} {σ : ib_H} {Q : ib_O → Prop} {l1 : Nat} {l2 : Int} {l3 : Nat} {s0 : Nat} (hF : jb_F σ) (hl1 : l1 ≠ 0 → jb_rc σ l1) (hl2 : jb_r l2) (hl3 : l3 ≠ 0 → jb_pg σ l3) (hs0 : s0 ≠ 0 → jb_pg σ s0)
    (h : (s0 ≠ 0) ∧ (jb_w d 35 0 [some (.ref s0), some (.ref l3), none] [] σ (jb_k (d + 1) 85 20 [some (.ref 79), some (.ref l1), some (jb_v l2), some (.ref l3)] [] Q))) :
    jb_w (d + 1) 85 19 [some (.ref 79), some (.ref l1), some (jb_v l2), some (.ref l3)] [(.ref s0)] σ Q := by
  refine jaL3 (p := 20) rfl jM85 jq85_19 ?_
  obtain ⟨c1, h1⟩ := h
  refine jw_callV [(.ref l3)] jM85 jq85_20 rfl rfl (hs0 c1).ob rfl jM35 rfl rfl ?_
  exact h1
theorem jk85_23 {d : Nat} {σ : ib_H} {Q : ib_O → Prop} {l1 : Nat} {l2 : Int} {l3 : Nat} (hF : jb_F σ) (hl1 : l1 ≠ 0 → jb_rc σ l1) (hl2 : jb_r l2) (hl3 : l3 ≠ 0 → jb_pg σ l3)
    (h : (l1 ≠ 0) ∧ (jb_w d 27 0 [some (.ref l1), some (jb_v l2), none, none] [] σ (jb_k (d + 1) 85 25 [some (.ref 79), some (.ref l1), some (jb_v l2), some (.ref l3)] [] Q))) :
    jb_w (d + 1) 85 23 [some (.ref 79), some (.ref l1), some (jb_v l2), some (.ref l3)] [] σ Q := by
  refine jaL1 (p := 24) rfl jM85 jq85_23 ?_
  refine jiL2 (p := 25) rfl jM85 jq85_24 ?_
  obtain ⟨c1, h1⟩ := h
  refine jw_callV [(jb_v l2)] jM85 jq85_25 rfl rfl (hl1 c1).ob rfl jM27 rfl rfl ?_
  exact h1
theorem jk85_28 {d : Nat} {σ : ib_H} {Q : ib_O → Prop} {l1 : Nat} {l2 : Int} {l3 : Nat} {s0 : Nat} (hF : jb_F σ) (hl1 : l1 ≠ 0 → jb_rc σ l1) (hl2 : jb_r l2) (hl3 : l3 ≠ 0 → jb_pg σ l3) (hs0 : s0 ≠ 0 → jb_pg σ s0)
    (h : (s0 ≠ 0) ∧ (jb_w d 34 0 [some (.ref s0), some (jb_v 0)] [] σ (jb_k (d + 1) 85 29 [some (.ref 79), some (.ref l1), some (jb_v l2), some (.ref l3)] [] Q))) :
    jb_w (d + 1) 85 28 [some (.ref 79), some (.ref l1), some (jb_v l2), some (.ref l3)] [(.ref s0)] σ Q := by
  refine jw_iconst (p := 29) rfl jM85 jq85_28 ?_
  obtain ⟨c1, h1⟩ := h
  refine jw_callV [(jb_v 0)] jM85 jq85_29 rfl rfl (hs0 c1).ob rfl jM34 rfl rfl ?_
  exact h1
theorem jk85_32 {d : Nat} {σ : ib_H} {Q : ib_O → Prop} {l1 : Nat} {l2 : Int} {l3 : Nat} (hF : jb_F σ) (hl1 : l1 ≠ 0 → jb_rc σ l1) (hl2 : jb_r l2) (hl3 : l3 ≠ 0 → jb_pg σ l3)
    (h : Q (.inl none, σ)) :
    jb_w d 85 32 [some (.ref 79), some (.ref l1), some (jb_v l2), some (.ref l3)] [] σ Q := by
  exact jw_vret jM85 jq85_32 h
-- 86 PageLoom$Tree.onlyChildOfRoot()I
theorem jk86_0 {d : Nat} {σ : ib_H} {Q : ib_O → Prop}  (hF : jb_F σ) 
    (h : jb_w d 3 0 [some (.ref 66), some (jb_v 0), none] [] σ (jb_k (d + 1) 86 5 [some (.ref 79), none] [] Q)) :
    jb_w (d + 1) 86 0 [some (.ref 79), none] [] σ Q := by
  refine jaL0 (p := 1) rfl jM86 jq86_0 ?_
  refine jw_getP (p := 4) (i := 0) (q := 66) rfl jM86 jq86_1 rfl (jo_79 hF) je_7_0 (jp_79_0 hF) ?_
  refine jw_iconst (p := 5) rfl jM86 jq86_4 ?_
  refine jw_callV [(jb_v 0)] jM86 jq86_5 rfl rfl (jo_66 hF) rfl jM3 rfl rfl ?_
  exact h
theorem jk86_8 {d : Nat} {σ : ib_H} {Q : ib_O → Prop} {s0 : Nat} (hF : jb_F σ) (hs0 : s0 ≠ 0 → jb_pg σ s0)
    (h : (s0 = 0 → Q (.inl (some (jb_v (-1))), σ)) ∧ (¬ (s0 = 0) → (¬ jb_i σ s0 0 = 2 → Q (.inl (some (jb_v (-1))), σ)) ∧ (¬ (¬ jb_i σ s0 0 = 2) → (¬ jb_i σ s0 2 = 1 → Q (.inl (some (jb_v (-1))), σ)) ∧ (¬ (¬ jb_i σ s0 2 = 1) → jb_w d 39 0 [some (.ref s0), some (jb_v 0), none] [] σ (jb_k (d + 1) 86 31 [some (.ref 79), some (.ref s0)] [] Q))))) :
    jb_w (d + 1) 86 8 [some (.ref 79), none] [(.ref s0)] σ Q := by
  refine jaS1 (p := 9) rfl jM86 jq86_8 ?_
  refine jaL1 (p := 10) rfl jM86 jq86_9 ?_
  refine jw_ifnull (p := 13) rfl jM86 jq86_10 (fun c1 => ?_) (fun c1 => ?_)
  · have h1 := h.1 c1
    refine jw_iconst (p := 38) rfl jM86 jq86_37 ?_
    exact jw_iret jM86 jq86_38 (fun z => absurd z (by decide)) h1
  · have h1 := h.2 c1
    refine jaL1 (p := 14) rfl jM86 jq86_13 ?_
    refine jw_getI (p := 17) (i := 0) rfl jM86 jq86_14 rfl (hs0 c1).ob jn_4_0 ?_
    refine jw_iconst (p := 18) rfl jM86 jq86_17 ?_
    refine jw_ic (p := 21) rfl jM86 jq86_18 (jc_ne (jb_r_i _ _ _) (jb_rn rfl)) (fun c2 => ?_) (fun c2 => ?_)
    · have h2 := h1.1 c2
      refine jw_iconst (p := 38) rfl jM86 jq86_37 ?_
      exact jw_iret jM86 jq86_38 (fun z => absurd z (by decide)) h2
    · have h2 := h1.2 c2
      refine jaL1 (p := 22) rfl jM86 jq86_21 ?_
      refine jw_getI (p := 25) (i := 2) rfl jM86 jq86_22 rfl (hs0 c1).ob jn_4_2 ?_
      refine jw_iconst (p := 26) rfl jM86 jq86_25 ?_
      refine jw_ic (p := 29) rfl jM86 jq86_26 (jc_ne (jb_r_i _ _ _) (jb_rn rfl)) (fun c3 => ?_) (fun c3 => ?_)
      · have h3 := h2.1 c3
        refine jw_iconst (p := 38) rfl jM86 jq86_37 ?_
        exact jw_iret jM86 jq86_38 (fun z => absurd z (by decide)) h3
      · have h3 := h2.2 c3
        refine jaL1 (p := 30) rfl jM86 jq86_29 ?_
        refine jw_iconst (p := 31) rfl jM86 jq86_30 ?_
        refine jw_callV [(jb_v 0)] jM86 jq86_31 rfl rfl (hs0 c1).ob rfl jM39 rfl rfl ?_
        exact h3
theorem jk86_34 {d : Nat} {σ : ib_H} {Q : ib_O → Prop} {l1 : Nat} {s0 : Int} (hF : jb_F σ) (hl1 : l1 ≠ 0 → jb_pg σ l1) (hs0 : jb_r s0)
    (h : Q (.inl (some (jb_v s0)), σ)) :
    jb_w d 86 34 [some (.ref 79), some (.ref l1)] [(jb_v s0)] σ Q := by
  refine jw_goto jM86 jq86_34 ?_
  exact jw_iret jM86 jq86_38 (fun z => absurd z (by decide)) h
-- 87 PageLoom$Tree.lowestUnsettled()I
theorem jk87_0 {d : Nat} {σ : ib_H} {Q : ib_O → Prop}  (hF : jb_F σ) 
    (h : jb_w d 86 0 [some (.ref 79), none] [] σ (jb_k (d + 1) 87 1 [some (.ref 79), none, none] [] Q)) :
    jb_w (d + 1) 87 0 [some (.ref 79), none, none] [] σ Q := by
  refine jaL0 (p := 1) rfl jM87 jq87_0 ?_
  refine jw_callV [] jM87 jq87_1 rfl rfl (jo_79 hF) rfl jM86 rfl rfl ?_
  exact h
theorem jk87_4 {d : Nat} {σ : ib_H} {Q : ib_O → Prop} {s0 : Int} (hF : jb_F σ) (hs0 : jb_r s0)
    (h : (s0 = (-1) → jb_w d 87 12 [some (.ref 79), some (jb_v 1), none] [] σ Q) ∧ (¬ (s0 = (-1)) → Q (.inl (some (jb_v 0)), σ))) :
    jb_w d 87 4 [some (.ref 79), none, none] [(jb_v s0)] σ Q := by
  refine jw_iconst (p := 5) rfl jM87 jq87_4 ?_
  refine jw_ic (p := 8) rfl jM87 jq87_5 (jc_eq hs0 (jb_rn rfl)) (fun c1 => ?_) (fun c1 => ?_)
  · have h1 := h.1 c1
    refine jw_iconst (p := 11) rfl jM87 jq87_10 ?_
    refine jiS1 (p := 12) rfl jM87 jq87_11 ?_
    exact h1
  · have h1 := h.2 c1
    refine jw_iconst (p := 9) rfl jM87 jq87_8 ?_
    exact jw_iret jM87 jq87_9 (fun z => absurd z (by decide)) h1
theorem jk87_12 {d : Nat} {σ : ib_H} {Q : ib_O → Prop} {l1 : Int} (hF : jb_F σ) (hl1 : jb_r l1)
    (h : (24 ≤ l1 → Q (.inl (some (jb_v (-1))), σ)) ∧ (¬ (24 ≤ l1) → jb_w d 3 0 [some (.ref 66), some (jb_v l1), none] [] σ (jb_k (d + 1) 87 23 [some (.ref 79), some (jb_v l1), none] [] Q))) :
    jb_w (d + 1) 87 12 [some (.ref 79), some (jb_v l1), none] [] σ Q := by
  refine jiL1 (p := 13) rfl jM87 jq87_12 ?_
  refine jw_bipush (p := 15) rfl jM87 jq87_13 (by decide) ?_
  refine jw_ic (p := 18) rfl jM87 jq87_15 (jc_ge hl1 (jb_rn rfl)) (fun c1 => ?_) (fun c1 => ?_)
  · have h1 := h.1 c1
    refine jw_iconst (p := 47) rfl jM87 jq87_46 ?_
    exact jw_iret jM87 jq87_47 (fun z => absurd z (by decide)) h1
  · have h1 := h.2 c1
    refine jaL0 (p := 19) rfl jM87 jq87_18 ?_
    refine jw_getP (p := 22) (i := 0) (q := 66) rfl jM87 jq87_19 rfl (jo_79 hF) je_7_0 (jp_79_0 hF) ?_
    refine jiL1 (p := 23) rfl jM87 jq87_22 ?_
    refine jw_callV [(jb_v l1)] jM87 jq87_23 rfl rfl (jo_66 hF) rfl jM3 rfl rfl ?_
    exact h1
theorem jk87_26 {d : Nat} {σ : ib_H} {Q : ib_O → Prop} {l1 : Int} {s0 : Nat} (hF : jb_F σ) (hl1 : jb_r l1) (hs0 : s0 ≠ 0 → jb_pg σ s0)
    (h : (s0 = 0 → jb_w (d + 1) 87 12 [some (.ref 79), some (jb_v (l1 + 1)), some (.ref s0)] [] σ Q) ∧ (¬ (s0 = 0) → jb_w d 36 0 [some (.ref s0)] [] σ (jb_k (d + 1) 87 32 [some (.ref 79), some (jb_v l1), some (.ref s0)] [] Q))) :
    jb_w (d + 1) 87 26 [some (.ref 79), some (jb_v l1), none] [(.ref s0)] σ Q := by
  refine jaS2 (p := 27) rfl jM87 jq87_26 ?_
  refine jaL2 (p := 28) rfl jM87 jq87_27 ?_
  refine jw_ifnull (p := 31) rfl jM87 jq87_28 (fun c1 => ?_) (fun c1 => ?_)
  · have h1 := h.1 c1
    refine jiI1 (p := 43) rfl jM87 jq87_40 ?_
    refine jw_goto jM87 jq87_43 ?_
    exact h1
  · have h1 := h.2 c1
    refine jaL2 (p := 32) rfl jM87 jq87_31 ?_
    refine jw_callV [] jM87 jq87_32 rfl rfl (hs0 c1).ob rfl jM36 rfl rfl ?_
    exact h1
theorem jk87_12_2 {d : Nat} {σ : ib_H} {Q : ib_O → Prop} {l1 : Int} {l2 : Nat} (hF : jb_F σ) (hl1 : jb_r l1) (hl2 : l2 ≠ 0 → jb_pg σ l2)
    (h : (24 ≤ l1 → Q (.inl (some (jb_v (-1))), σ)) ∧ (¬ (24 ≤ l1) → jb_w d 3 0 [some (.ref 66), some (jb_v l1), none] [] σ (jb_k (d + 1) 87 23 [some (.ref 79), some (jb_v l1), some (.ref l2)] [] Q))) :
    jb_w (d + 1) 87 12 [some (.ref 79), some (jb_v l1), some (.ref l2)] [] σ Q := by
  refine jiL1 (p := 13) rfl jM87 jq87_12 ?_
  refine jw_bipush (p := 15) rfl jM87 jq87_13 (by decide) ?_
  refine jw_ic (p := 18) rfl jM87 jq87_15 (jc_ge hl1 (jb_rn rfl)) (fun c1 => ?_) (fun c1 => ?_)
  · have h1 := h.1 c1
    refine jw_iconst (p := 47) rfl jM87 jq87_46 ?_
    exact jw_iret jM87 jq87_47 (fun z => absurd z (by decide)) h1
  · have h1 := h.2 c1
    refine jaL0 (p := 19) rfl jM87 jq87_18 ?_
    refine jw_getP (p := 22) (i := 0) (q := 66) rfl jM87 jq87_19 rfl (jo_79 hF) je_7_0 (jp_79_0 hF) ?_
    refine jiL1 (p := 23) rfl jM87 jq87_22 ?_
    refine jw_callV [(jb_v l1)] jM87 jq87_23 rfl rfl (jo_66 hF) rfl jM3 rfl rfl ?_
    exact h1
theorem jk87_35 {d : Nat} {σ : ib_H} {Q : ib_O → Prop} {l1 : Int} {l2 : Nat} {s0 : Int} (hF : jb_F σ) (hl1 : jb_r l1) (hl2 : l2 ≠ 0 → jb_pg σ l2) (hs0 : jb_r s0)
    (h : (s0 = 0 → jb_w d 87 12 [some (.ref 79), some (jb_v (l1 + 1)), some (.ref l2)] [] σ Q) ∧ (¬ (s0 = 0) → Q (.inl (some (jb_v l1)), σ))) :
    jb_w d 87 35 [some (.ref 79), some (jb_v l1), some (.ref l2)] [(jb_v s0)] σ Q := by
  refine jw_if (p := 38) rfl jM87 jq87_35 (jc_eq hs0 jb_r0) (fun c1 => ?_) (fun c1 => ?_)
  · have h1 := h.1 c1
    refine jiI1 (p := 43) rfl jM87 jq87_40 ?_
    refine jw_goto jM87 jq87_43 ?_
    exact h1
  · have h1 := h.2 c1
    refine jiL1 (p := 39) rfl jM87 jq87_38 ?_
    exact jw_iret jM87 jq87_39 (fun z => absurd z (by decide)) h1
theorem jk87_26_2 {d : Nat} {σ : ib_H} {Q : ib_O → Prop} {l1 : Int} {l2 : Nat} {s0 : Nat} (hF : jb_F σ) (hl1 : jb_r l1) (hl2 : l2 ≠ 0 → jb_pg σ l2) (hs0 : s0 ≠ 0 → jb_pg σ s0)
    (h : (s0 = 0 → jb_w (d + 1) 87 12 [some (.ref 79), some (jb_v (l1 + 1)), some (.ref s0)] [] σ Q) ∧ (¬ (s0 = 0) → jb_w d 36 0 [some (.ref s0)] [] σ (jb_k (d + 1) 87 32 [some (.ref 79), some (jb_v l1), some (.ref s0)] [] Q))) :
    jb_w (d + 1) 87 26 [some (.ref 79), some (jb_v l1), some (.ref l2)] [(.ref s0)] σ Q := by
  refine jaS2 (p := 27) rfl jM87 jq87_26 ?_
  refine jaL2 (p := 28) rfl jM87 jq87_27 ?_
  refine jw_ifnull (p := 31) rfl jM87 jq87_28 (fun c1 => ?_) (fun c1 => ?_)
  · have h1 := h.1 c1
    refine jiI1 (p := 43) rfl jM87 jq87_40 ?_
    refine jw_goto jM87 jq87_43 ?_
    exact h1
  · have h1 := h.2 c1
    refine jaL2 (p := 32) rfl jM87 jq87_31 ?_
    refine jw_callV [] jM87 jq87_32 rfl rfl (hs0 c1).ob rfl jM36 rfl rfl ?_
    exact h1
-- 88 PageLoom$Tree.parentOf(I)I
theorem jk88_0 {d : Nat} {σ : ib_H} {Q : ib_O → Prop} {l1 : Int} (hF : jb_F σ) (hl1 : jb_r l1)
    (h : jb_w d 88 2 [some (.ref 79), some (jb_v l1), some (jb_v 0), none] [] σ Q) :
    jb_w d 88 0 [some (.ref 79), some (jb_v l1), none, none] [] σ Q := by
  refine jw_iconst (p := 1) rfl jM88 jq88_0 ?_
  refine jiS2 (p := 2) rfl jM88 jq88_1 ?_
  exact h
theorem jk88_2 {d : Nat} {σ : ib_H} {Q : ib_O → Prop} {l1 : Int} {l2 : Int} (hF : jb_F σ) (hl1 : jb_r l1) (hl2 : jb_r l2)
    (h : (24 ≤ l2 → Q (.inl (some (jb_v (-1))), σ)) ∧ (¬ (24 ≤ l2) → jb_w d 3 0 [some (.ref 66), some (jb_v l2), none] [] σ (jb_k (d + 1) 88 13 [some (.ref 79), some (jb_v l1), some (jb_v l2), none] [] Q))) :
    jb_w (d + 1) 88 2 [some (.ref 79), some (jb_v l1), some (jb_v l2), none] [] σ Q := by
  refine jiL2 (p := 3) rfl jM88 jq88_2 ?_
  refine jw_bipush (p := 5) rfl jM88 jq88_3 (by decide) ?_
  refine jw_ic (p := 8) rfl jM88 jq88_5 (jc_ge hl2 (jb_rn rfl)) (fun c1 => ?_) (fun c1 => ?_)
  · have h1 := h.1 c1
    refine jw_iconst (p := 47) rfl jM88 jq88_46 ?_
    exact jw_iret jM88 jq88_47 (fun z => absurd z (by decide)) h1
  · have h1 := h.2 c1
    refine jaL0 (p := 9) rfl jM88 jq88_8 ?_
    refine jw_getP (p := 12) (i := 0) (q := 66) rfl jM88 jq88_9 rfl (jo_79 hF) je_7_0 (jp_79_0 hF) ?_
    refine jiL2 (p := 13) rfl jM88 jq88_12 ?_
    refine jw_callV [(jb_v l2)] jM88 jq88_13 rfl rfl (jo_66 hF) rfl jM3 rfl rfl ?_
    exact h1
theorem jk88_16 {d : Nat} {σ : ib_H} {Q : ib_O → Prop} {l1 : Int} {l2 : Int} {s0 : Nat} (hF : jb_F σ) (hl1 : jb_r l1) (hl2 : jb_r l2) (hs0 : s0 ≠ 0 → jb_pg σ s0)
    (h : (s0 = 0 → jb_w (d + 1) 88 2 [some (.ref 79), some (jb_v l1), some (jb_v (l2 + 1)), some (.ref s0)] [] σ Q) ∧ (¬ (s0 = 0) → (¬ jb_i σ s0 0 = 2 → jb_w (d + 1) 88 2 [some (.ref 79), some (jb_v l1), some (jb_v (l2 + 1)), some (.ref s0)] [] σ Q) ∧ (¬ (¬ jb_i σ s0 0 = 2) → jb_w d 41 0 [some (.ref s0), some (jb_v l1), none] [] σ (jb_k (d + 1) 88 31 [some (.ref 79), some (jb_v l1), some (jb_v l2), some (.ref s0)] [] Q)))) :
    jb_w (d + 1) 88 16 [some (.ref 79), some (jb_v l1), some (jb_v l2), none] [(.ref s0)] σ Q := by
  refine jaS3 (p := 17) rfl jM88 jq88_16 ?_
  refine jaL3 (p := 18) rfl jM88 jq88_17 ?_
  refine jw_ifnull (p := 21) rfl jM88 jq88_18 (fun c1 => ?_) (fun c1 => ?_)
  · have h1 := h.1 c1
    refine jiI2 (p := 43) rfl jM88 jq88_40 ?_
    refine jw_goto jM88 jq88_43 ?_
    exact h1
  · have h1 := h.2 c1
    refine jaL3 (p := 22) rfl jM88 jq88_21 ?_
    refine jw_getI (p := 25) (i := 0) rfl jM88 jq88_22 rfl (hs0 c1).ob jn_4_0 ?_
    refine jw_iconst (p := 26) rfl jM88 jq88_25 ?_
    refine jw_ic (p := 29) rfl jM88 jq88_26 (jc_ne (jb_r_i _ _ _) (jb_rn rfl)) (fun c2 => ?_) (fun c2 => ?_)
    · have h2 := h1.1 c2
      refine jiI2 (p := 43) rfl jM88 jq88_40 ?_
      refine jw_goto jM88 jq88_43 ?_
      exact h2
    · have h2 := h1.2 c2
      refine jaL3 (p := 30) rfl jM88 jq88_29 ?_
      refine jiL1 (p := 31) rfl jM88 jq88_30 ?_
      refine jw_callV [(jb_v l1)] jM88 jq88_31 rfl rfl (hs0 c1).ob rfl jM41 rfl rfl ?_
      exact h2
theorem jk88_2_2 {d : Nat} {σ : ib_H} {Q : ib_O → Prop} {l1 : Int} {l2 : Int} {l3 : Nat} (hF : jb_F σ) (hl1 : jb_r l1) (hl2 : jb_r l2) (hl3 : l3 ≠ 0 → jb_pg σ l3)
    (h : (24 ≤ l2 → Q (.inl (some (jb_v (-1))), σ)) ∧ (¬ (24 ≤ l2) → jb_w d 3 0 [some (.ref 66), some (jb_v l2), none] [] σ (jb_k (d + 1) 88 13 [some (.ref 79), some (jb_v l1), some (jb_v l2), some (.ref l3)] [] Q))) :
    jb_w (d + 1) 88 2 [some (.ref 79), some (jb_v l1), some (jb_v l2), some (.ref l3)] [] σ Q := by
  refine jiL2 (p := 3) rfl jM88 jq88_2 ?_
  refine jw_bipush (p := 5) rfl jM88 jq88_3 (by decide) ?_
  refine jw_ic (p := 8) rfl jM88 jq88_5 (jc_ge hl2 (jb_rn rfl)) (fun c1 => ?_) (fun c1 => ?_)
  · have h1 := h.1 c1
    refine jw_iconst (p := 47) rfl jM88 jq88_46 ?_
    exact jw_iret jM88 jq88_47 (fun z => absurd z (by decide)) h1
  · have h1 := h.2 c1
    refine jaL0 (p := 9) rfl jM88 jq88_8 ?_
    refine jw_getP (p := 12) (i := 0) (q := 66) rfl jM88 jq88_9 rfl (jo_79 hF) je_7_0 (jp_79_0 hF) ?_
    refine jiL2 (p := 13) rfl jM88 jq88_12 ?_
    refine jw_callV [(jb_v l2)] jM88 jq88_13 rfl rfl (jo_66 hF) rfl jM3 rfl rfl ?_
    exact h1
theorem jk88_34 {d : Nat} {σ : ib_H} {Q : ib_O → Prop} {l1 : Int} {l2 : Int} {l3 : Nat} {s0 : Int} (hF : jb_F σ) (hl1 : jb_r l1) (hl2 : jb_r l2) (hl3 : l3 ≠ 0 → jb_pg σ l3) (hs0 : jb_r s0)
    (h : (s0 = (-1) → jb_w d 88 2 [some (.ref 79), some (jb_v l1), some (jb_v (l2 + 1)), some (.ref l3)] [] σ Q) ∧ (¬ (s0 = (-1)) → Q (.inl (some (jb_v l2)), σ))) :
    jb_w d 88 34 [some (.ref 79), some (jb_v l1), some (jb_v l2), some (.ref l3)] [(jb_v s0)] σ Q := by
  refine jw_iconst (p := 35) rfl jM88 jq88_34 ?_
  refine jw_ic (p := 38) rfl jM88 jq88_35 (jc_eq hs0 (jb_rn rfl)) (fun c1 => ?_) (fun c1 => ?_)
  · have h1 := h.1 c1
    refine jiI2 (p := 43) rfl jM88 jq88_40 ?_
    refine jw_goto jM88 jq88_43 ?_
    exact h1
  · have h1 := h.2 c1
    refine jiL2 (p := 39) rfl jM88 jq88_38 ?_
    exact jw_iret jM88 jq88_39 (fun z => absurd z (by decide)) h1
theorem jk88_16_2 {d : Nat} {σ : ib_H} {Q : ib_O → Prop} {l1 : Int} {l2 : Int} {l3 : Nat} {s0 : Nat} (hF : jb_F σ) (hl1 : jb_r l1) (hl2 : jb_r l2) (hl3 : l3 ≠ 0 → jb_pg σ l3) (hs0 : s0 ≠ 0 → jb_pg σ s0)
    (h : (s0 = 0 → jb_w (d + 1) 88 2 [some (.ref 79), some (jb_v l1), some (jb_v (l2 + 1)), some (.ref s0)] [] σ Q) ∧ (¬ (s0 = 0) → (¬ jb_i σ s0 0 = 2 → jb_w (d + 1) 88 2 [some (.ref 79), some (jb_v l1), some (jb_v (l2 + 1)), some (.ref s0)] [] σ Q) ∧ (¬ (¬ jb_i σ s0 0 = 2) → jb_w d 41 0 [some (.ref s0), some (jb_v l1), none] [] σ (jb_k (d + 1) 88 31 [some (.ref 79), some (jb_v l1), some (jb_v l2), some (.ref s0)] [] Q)))) :
    jb_w (d + 1) 88 16 [some (.ref 79), some (jb_v l1), some (jb_v l2), some (.ref l3)] [(.ref s0)] σ Q := by
  refine jaS3 (p := 17) rfl jM88 jq88_16 ?_
  refine jaL3 (p := 18) rfl jM88 jq88_17 ?_
  refine jw_ifnull (p := 21) rfl jM88 jq88_18 (fun c1 => ?_) (fun c1 => ?_)
  · have h1 := h.1 c1
    refine jiI2 (p := 43) rfl jM88 jq88_40 ?_
    refine jw_goto jM88 jq88_43 ?_
    exact h1
  · have h1 := h.2 c1
    refine jaL3 (p := 22) rfl jM88 jq88_21 ?_
    refine jw_getI (p := 25) (i := 0) rfl jM88 jq88_22 rfl (hs0 c1).ob jn_4_0 ?_
    refine jw_iconst (p := 26) rfl jM88 jq88_25 ?_
    refine jw_ic (p := 29) rfl jM88 jq88_26 (jc_ne (jb_r_i _ _ _) (jb_rn rfl)) (fun c2 => ?_) (fun c2 => ?_)
    · have h2 := h1.1 c2
      refine jiI2 (p := 43) rfl jM88 jq88_40 ?_
      refine jw_goto jM88 jq88_43 ?_
      exact h2
    · have h2 := h1.2 c2
      refine jaL3 (p := 30) rfl jM88 jq88_29 ?_
      refine jiL1 (p := 31) rfl jM88 jq88_30 ?_
      refine jw_callV [(jb_v l1)] jM88 jq88_31 rfl rfl (hs0 c1).ob rfl jM41 rfl rfl ?_
      exact h2
-- 90 PageLoom$Undoing.lookAtAlone(I)V
theorem jk90_0 {d : Nat} {σ : ib_H} {Q : ib_O → Prop} {l1 : Int} (hF : jb_F σ) (hl1 : jb_r l1)
    (h : jb_w d 90 2 [some (.ref 81), some (jb_v l1), some (jb_v 0)] [] σ Q) :
    jb_w d 90 0 [some (.ref 81), some (jb_v l1), none] [] σ Q := by
  refine jw_iconst (p := 1) rfl jM90 jq90_0 ?_
  refine jiS2 (p := 2) rfl jM90 jq90_1 ?_
  exact h
theorem jk90_2 {d : Nat} {σ : ib_H} {Q : ib_O → Prop} {l1 : Int} {l2 : Int} (hF : jb_F σ) (hl1 : jb_r l1) (hl2 : jb_r l2)
    (h : (4 ≤ l2 → Q (.inl none, σ)) ∧ (¬ (4 ≤ l2) → (¬ l2 = l1 → (0 ≤ l2 ∧ l2 < 4) ∧ (jb_w d 90 2 [some (.ref 81), some (jb_v l1), some (jb_v (l2 + 1))] [] (jb_si σ 82 l2 (-1)) Q)) ∧ (¬ (¬ l2 = l1) → (0 ≤ l2 ∧ l2 < 4) ∧ (jb_w d 90 2 [some (.ref 81), some (jb_v l1), some (jb_v (l2 + 1))] [] (jb_si σ 82 l2 (jb_i σ 59 l2)) Q)))) :
    jb_w d 90 2 [some (.ref 81), some (jb_v l1), some (jb_v l2)] [] σ Q := by
  refine jiL2 (p := 3) rfl jM90 jq90_2 ?_
  refine jw_iconst (p := 4) rfl jM90 jq90_3 ?_
  refine jw_ic (p := 7) rfl jM90 jq90_4 (jc_ge hl2 (jb_rn rfl)) (fun c1 => ?_) (fun c1 => ?_)
  · have h1 := h.1 c1
    exact jw_vret jM90 jq90_37 h1
  · have h1 := h.2 c1
    refine jaL0 (p := 8) rfl jM90 jq90_7 ?_
    refine jw_getP (p := 11) (i := 3) (q := 82) rfl jM90 jq90_8 rfl (jo_81 hF) je_8_3 (jp_81_3 hF) ?_
    refine jiL2 (p := 12) rfl jM90 jq90_11 ?_
    refine jiL2 (p := 13) rfl jM90 jq90_12 ?_
    refine jiL1 (p := 14) rfl jM90 jq90_13 ?_
    refine jw_ic (p := 17) rfl jM90 jq90_14 (jc_ne hl2 hl1) (fun c2 => ?_) (fun c2 => ?_)
    · have h2 := h1.1 c2
      refine jw_iconst (p := 30) rfl jM90 jq90_29 ?_
      obtain ⟨c3, h3⟩ := h2
      refine jw_iast (p := 31) rfl jM90 jq90_30 (ja_82 hF) c3.1 c3.2 ?_
      refine jiI2 (p := 34) rfl jM90 jq90_31 ?_
      refine jw_goto jM90 jq90_34 ?_
      exact h3
    · have h2 := h1.2 c2
      refine jaL0 (p := 18) rfl jM90 jq90_17 ?_
      refine jw_getP (p := 21) (i := 2) (q := 57) rfl jM90 jq90_18 rfl (jo_81 hF) je_8_2 (jp_81_2 hF) ?_
      refine jw_getP (p := 24) (i := 1) (q := 59) rfl jM90 jq90_21 rfl (jo_57 hF) je_6_1 (jp_57_1 hF) ?_
      refine jiL2 (p := 25) rfl jM90 jq90_24 ?_
      obtain ⟨c4, h4⟩ := h2
      refine jw_iald (p := 26) rfl jM90 jq90_25 (ja_59 hF) c4.1 c4.2 ?_
      refine jw_goto jM90 jq90_26 ?_
      refine jw_iast (p := 31) rfl jM90 jq90_30 (ja_82 hF) c4.1 c4.2 ?_
      refine jiI2 (p := 34) rfl jM90 jq90_31 ?_
      refine jw_goto jM90 jq90_34 ?_
      exact h4
-- 91 PageLoom$Undoing.lookAtAllWithRecords()V
theorem jk91_0 {d : Nat} {σ : ib_H} {Q : ib_O → Prop}  (hF : jb_F σ) 
    (h : jb_w d 91 2 [some (.ref 81), some (jb_v 0)] [] σ Q) :
    jb_w d 91 0 [some (.ref 81), none] [] σ Q := by
  refine jw_iconst (p := 1) rfl jM91 jq91_0 ?_
  refine jiS1 (p := 2) rfl jM91 jq91_1 ?_
  exact h
theorem jk91_2 {d : Nat} {σ : ib_H} {Q : ib_O → Prop} {l1 : Int} (hF : jb_F σ) (hl1 : jb_r l1)
    (h : (4 ≤ l1 → Q (.inl none, σ)) ∧ (¬ (4 ≤ l1) → (0 ≤ l1 ∧ l1 < 4) ∧ ((jb_i σ 59 l1 ≤ 0 → jb_w d 91 2 [some (.ref 81), some (jb_v (l1 + 1))] [] (jb_si σ 82 l1 (-1)) Q) ∧ (¬ (jb_i σ 59 l1 ≤ 0) → jb_w d 91 2 [some (.ref 81), some (jb_v (l1 + 1))] [] (jb_si σ 82 l1 (jb_i σ 59 l1)) Q)))) :
    jb_w d 91 2 [some (.ref 81), some (jb_v l1)] [] σ Q := by
  refine jiL1 (p := 3) rfl jM91 jq91_2 ?_
  refine jw_iconst (p := 4) rfl jM91 jq91_3 ?_
  refine jw_ic (p := 7) rfl jM91 jq91_4 (jc_ge hl1 (jb_rn rfl)) (fun c1 => ?_) (fun c1 => ?_)
  · have h1 := h.1 c1
    exact jw_vret jM91 jq91_44 h1
  · have h1 := h.2 c1
    refine jaL0 (p := 8) rfl jM91 jq91_7 ?_
    refine jw_getP (p := 11) (i := 3) (q := 82) rfl jM91 jq91_8 rfl (jo_81 hF) je_8_3 (jp_81_3 hF) ?_
    refine jiL1 (p := 12) rfl jM91 jq91_11 ?_
    refine jaL0 (p := 13) rfl jM91 jq91_12 ?_
    refine jw_getP (p := 16) (i := 2) (q := 57) rfl jM91 jq91_13 rfl (jo_81 hF) je_8_2 (jp_81_2 hF) ?_
    refine jw_getP (p := 19) (i := 1) (q := 59) rfl jM91 jq91_16 rfl (jo_57 hF) je_6_1 (jp_57_1 hF) ?_
    refine jiL1 (p := 20) rfl jM91 jq91_19 ?_
    obtain ⟨c2, h2⟩ := h1
    refine jw_iald (p := 21) rfl jM91 jq91_20 (ja_59 hF) c2.1 c2.2 ?_
    refine jw_if (p := 24) rfl jM91 jq91_21 (jc_le (jb_r_i _ _ _) jb_r0) (fun c3 => ?_) (fun c3 => ?_)
    · have h3 := h2.1 c3
      refine jw_iconst (p := 37) rfl jM91 jq91_36 ?_
      refine jw_iast (p := 38) rfl jM91 jq91_37 (ja_82 hF) c2.1 c2.2 ?_
      refine jiI1 (p := 41) rfl jM91 jq91_38 ?_
      refine jw_goto jM91 jq91_41 ?_
      exact h3
    · have h3 := h2.2 c3
      refine jaL0 (p := 25) rfl jM91 jq91_24 ?_
      refine jw_getP (p := 28) (i := 2) (q := 57) rfl jM91 jq91_25 rfl (jo_81 hF) je_8_2 (jp_81_2 hF) ?_
      refine jw_getP (p := 31) (i := 1) (q := 59) rfl jM91 jq91_28 rfl (jo_57 hF) je_6_1 (jp_57_1 hF) ?_
      refine jiL1 (p := 32) rfl jM91 jq91_31 ?_
      refine jw_iald (p := 33) rfl jM91 jq91_32 (ja_59 hF) c2.1 c2.2 ?_
      refine jw_goto jM91 jq91_33 ?_
      refine jw_iast (p := 38) rfl jM91 jq91_37 (ja_82 hF) c2.1 c2.2 ?_
      refine jiI1 (p := 41) rfl jM91 jq91_38 ?_
      refine jw_goto jM91 jq91_41 ?_
      exact h3
-- 92 PageLoom$Undoing.goBack(IZ)Z
theorem jk92_0 {d : Nat} {σ : ib_H} {Q : ib_O → Prop} {l1 : Int} {l2 : Int} (hF : jb_F σ) (hl1 : jb_r l1) (hl2 : jb_r l2)
    (h : jb_w d 92 7 [some (.ref 81), some (jb_v l1), some (jb_v l2), some (jb_v 0), none, none, none, none, none] [] (jb_si σ 81 4 0) Q) :
    jb_w d 92 0 [some (.ref 81), some (jb_v l1), some (jb_v l2), none, none, none, none, none, none] [] σ Q := by
  refine jaL0 (p := 1) rfl jM92 jq92_0 ?_
  refine jw_iconst (p := 2) rfl jM92 jq92_1 ?_
  refine jw_putI (p := 5) (i := 4) rfl jM92 jq92_2 rfl (jo_81 hF) (Or.inl jz_8_4) ?_
  refine jw_iconst (p := 6) rfl jM92 jq92_5 ?_
  refine jiS3 (p := 7) rfl jM92 jq92_6 ?_
  exact h
theorem jk92_7 {d : Nat} {σ : ib_H} {Q : ib_O → Prop} {l1 : Int} {l2 : Int} {l3 : Int} (hF : jb_F σ) (hl1 : jb_r l1) (hl2 : jb_r l2) (hl3 : jb_r l3)
    (h : (1104 ≤ l3 → Q (.inl (some (jb_v 1)), σ)) ∧ (¬ (1104 ≤ l3) → jb_w d 93 0 [some (.ref 81), some (jb_v l1), none, none] [] σ (jb_k (d + 1) 92 16 [some (.ref 81), some (jb_v l1), some (jb_v l2), some (jb_v l3), none, none, none, none, none] [] Q))) :
    jb_w (d + 1) 92 7 [some (.ref 81), some (jb_v l1), some (jb_v l2), some (jb_v l3), none, none, none, none, none] [] σ Q := by
  refine jiL3 (p := 8) rfl jM92 jq92_7 ?_
  refine jw_sipush (p := 11) rfl jM92 jq92_8 (by decide) ?_
  refine jw_ic (p := 14) rfl jM92 jq92_11 (jc_ge hl3 (jb_rn rfl)) (fun c1 => ?_) (fun c1 => ?_)
  · have h1 := h.1 c1
    refine jw_iconst (p := 242) rfl jM92 jq92_241 ?_
    exact jw_iret jM92 jq92_242 (fun _ => Or.inr rfl) h1
  · have h1 := h.2 c1
    refine jaL0 (p := 15) rfl jM92 jq92_14 ?_
    refine jiL1 (p := 16) rfl jM92 jq92_15 ?_
    refine jw_callV [(jb_v l1)] jM92 jq92_16 rfl rfl (jo_81 hF) rfl jM93 rfl rfl ?_
    exact h1
theorem jk92_19 {d : Nat} {σ : ib_H} {Q : ib_O → Prop} {l1 : Int} {l2 : Int} {l3 : Int} {s0 : Int} (hF : jb_F σ) (hl1 : jb_r l1) (hl2 : jb_r l2) (hl3 : jb_r l3) (hs0 : jb_r s0)
    (h : (¬ s0 = (-1) → (0 ≤ s0 ∧ s0 < 4) ∧ ((jb_i σ 82 s0 ≤ l1 → (l2 = 0 → jb_w (d + 1) 92 7 [some (.ref 81), some (jb_v l1), some (jb_v l2), some (jb_v (l3 + 1)), some (jb_v s0), some (.ref 0), none, none, none] [] (jb_si σ 82 s0 (-1)) Q) ∧ (¬ (l2 = 0) → jb_w d 96 0 [some (.ref 81), some (jb_v s0)] [] (jb_si σ 82 s0 (-1)) (jb_k (d + 1) 92 80 [some (.ref 81), some (jb_v l1), some (jb_v l2), some (jb_v l3), some (jb_v s0), some (.ref 0), none, none, none] [] Q))) ∧ (¬ (jb_i σ 82 s0 ≤ l1) → jb_w d 19 0 [some (.ref 63), some (jb_v (jb_i σ 82 s0))] [] σ (jb_k (d + 1) 92 51 [some (.ref 81), some (jb_v l1), some (jb_v l2), some (jb_v l3), some (jb_v s0), none, none, none, none] [] Q)))) ∧ (¬ (¬ s0 = (-1)) → Q (.inl (some (jb_v 1)), σ))) :
    jb_w (d + 1) 92 19 [some (.ref 81), some (jb_v l1), some (jb_v l2), some (jb_v l3), none, none, none, none, none] [(jb_v s0)] σ Q := by
  refine jiS4 (p := 21) rfl jM92 jq92_19 ?_
  refine jiL4 (p := 23) rfl jM92 jq92_21 ?_
  refine jw_iconst (p := 24) rfl jM92 jq92_23 ?_
  refine jw_ic (p := 27) rfl jM92 jq92_24 (jc_ne hs0 (jb_rn rfl)) (fun c1 => ?_) (fun c1 => ?_)
  · have h1 := h.1 c1
    refine jaL0 (p := 30) rfl jM92 jq92_29 ?_
    refine jw_getP (p := 33) (i := 3) (q := 82) rfl jM92 jq92_30 rfl (jo_81 hF) je_8_3 (jp_81_3 hF) ?_
    refine jiL4 (p := 35) rfl jM92 jq92_33 ?_
    obtain ⟨c2, h2⟩ := h1
    refine jw_iald (p := 36) rfl jM92 jq92_35 (ja_82 hF) c2.1 c2.2 ?_
    refine jiL1 (p := 37) rfl jM92 jq92_36 ?_
    refine jw_ic (p := 40) rfl jM92 jq92_37 (jc_le (jb_r_i _ _ _) hl1) (fun c3 => ?_) (fun c3 => ?_)
    · have h3 := h2.1 c3
      refine jw_null (p := 58) rfl jM92 jq92_57 ?_
      refine jaS5 (p := 60) rfl jM92 jq92_58 ?_
      refine jaL5 (p := 62) rfl jM92 jq92_60 ?_
      refine jw_ifnonnull (p := 65) rfl jM92 jq92_62 (fun z => absurd rfl z) (fun _ => ?_)
      refine jaL0 (p := 66) rfl jM92 jq92_65 ?_
      refine jw_getP (p := 69) (i := 3) (q := 82) rfl jM92 jq92_66 rfl (jo_81 hF) je_8_3 (jp_81_3 hF) ?_
      refine jiL4 (p := 71) rfl jM92 jq92_69 ?_
      refine jw_iconst (p := 72) rfl jM92 jq92_71 ?_
      refine jw_iast (p := 73) rfl jM92 jq92_72 (ja_82 hF) c2.1 c2.2 ?_
      refine jiL2 (p := 74) rfl jM92 jq92_73 ?_
      refine jw_if (p := 77) rfl jM92 jq92_74 (jc_eq hl2 jb_r0) (fun c4 => ?_) (fun c4 => ?_)
      · have h4 := h3.1 c4
        refine jiI3 (p := 238) rfl jM92 jq92_235 ?_
        refine jw_goto jM92 jq92_238 ?_
        exact h4
      · have h4 := h3.2 c4
        refine jaL0 (p := 78) rfl jM92 jq92_77 ?_
        refine jiL4 (p := 80) rfl jM92 jq92_78 ?_
        refine jw_callV [(jb_v s0)] jM92 jq92_80 rfl rfl (jo_81 hF) rfl jM96 rfl rfl ?_
        exact h4
    · have h3 := h2.2 c3
      refine jaL0 (p := 41) rfl jM92 jq92_40 ?_
      refine jw_getP (p := 44) (i := 1) (q := 63) rfl jM92 jq92_41 rfl (jo_81 hF) je_8_1 (jp_81_1 hF) ?_
      refine jaL0 (p := 45) rfl jM92 jq92_44 ?_
      refine jw_getP (p := 48) (i := 3) (q := 82) rfl jM92 jq92_45 rfl (jo_81 hF) je_8_3 (jp_81_3 hF) ?_
      refine jiL4 (p := 50) rfl jM92 jq92_48 ?_
      refine jw_iald (p := 51) rfl jM92 jq92_50 (ja_82 hF) c2.1 c2.2 ?_
      refine jw_callV [(jb_v (jb_i σ 82 s0))] jM92 jq92_51 rfl rfl (jo_63 hF) rfl jM19 rfl rfl ?_
      exact h3
  · have h1 := h.2 c1
    refine jw_iconst (p := 28) rfl jM92 jq92_27 ?_
    exact jw_iret jM92 jq92_28 (fun _ => Or.inr rfl) h1
theorem jk92_7_2 {d : Nat} {σ : ib_H} {Q : ib_O → Prop} {l1 : Int} {l2 : Int} {l3 : Int} {l4 : Int} (hF : jb_F σ) (hl1 : jb_r l1) (hl2 : jb_r l2) (hl3 : jb_r l3) (hl4 : jb_r l4)
    (h : (1104 ≤ l3 → Q (.inl (some (jb_v 1)), σ)) ∧ (¬ (1104 ≤ l3) → jb_w d 93 0 [some (.ref 81), some (jb_v l1), none, none] [] σ (jb_k (d + 1) 92 16 [some (.ref 81), some (jb_v l1), some (jb_v l2), some (jb_v l3), some (jb_v l4), some (.ref 0), none, none, none] [] Q))) :
    jb_w (d + 1) 92 7 [some (.ref 81), some (jb_v l1), some (jb_v l2), some (jb_v l3), some (jb_v l4), some (.ref 0), none, none, none] [] σ Q := by
  refine jiL3 (p := 8) rfl jM92 jq92_7 ?_
  refine jw_sipush (p := 11) rfl jM92 jq92_8 (by decide) ?_
  refine jw_ic (p := 14) rfl jM92 jq92_11 (jc_ge hl3 (jb_rn rfl)) (fun c1 => ?_) (fun c1 => ?_)
  · have h1 := h.1 c1
    refine jw_iconst (p := 242) rfl jM92 jq92_241 ?_
    exact jw_iret jM92 jq92_242 (fun _ => Or.inr rfl) h1
  · have h1 := h.2 c1
    refine jaL0 (p := 15) rfl jM92 jq92_14 ?_
    refine jiL1 (p := 16) rfl jM92 jq92_15 ?_
    refine jw_callV [(jb_v l1)] jM92 jq92_16 rfl rfl (jo_81 hF) rfl jM93 rfl rfl ?_
    exact h1
theorem jk92_83 {d : Nat} {σ : ib_H} {Q : ib_O → Prop} {l1 : Int} {l2 : Int} {l3 : Int} {l4 : Int} {s0 : Int} (hF : jb_F σ) (hl1 : jb_r l1) (hl2 : jb_r l2) (hl3 : jb_r l3) (hl4 : jb_r l4) (hs0 : jb_r s0)
    (h : (¬ s0 = 0 → jb_w d 92 7 [some (.ref 81), some (jb_v l1), some (jb_v l2), some (jb_v (l3 + 1)), some (jb_v l4), some (.ref 0), none, none, none] [] σ Q) ∧ (¬ (¬ s0 = 0) → Q (.inl (some (jb_v 0)), σ))) :
    jb_w d 92 83 [some (.ref 81), some (jb_v l1), some (jb_v l2), some (jb_v l3), some (jb_v l4), some (.ref 0), none, none, none] [(jb_v s0)] σ Q := by
  refine jw_if (p := 86) rfl jM92 jq92_83 (jc_ne hs0 jb_r0) (fun c1 => ?_) (fun c1 => ?_)
  · have h1 := h.1 c1
    refine jiI3 (p := 238) rfl jM92 jq92_235 ?_
    refine jw_goto jM92 jq92_238 ?_
    exact h1
  · have h1 := h.2 c1
    refine jw_iconst (p := 87) rfl jM92 jq92_86 ?_
    exact jw_iret jM92 jq92_87 (fun _ => Or.inl rfl) h1
theorem jk92_54 {d : Nat} {σ : ib_H} {Q : ib_O → Prop} {l1 : Int} {l2 : Int} {l3 : Int} {l4 : Int} {s0 : Nat} (hF : jb_F σ) (hl1 : jb_r l1) (hl2 : jb_r l2) (hl3 : jb_r l3) (hl4 : jb_r l4) (hs0 : s0 ≠ 0 → jb_rc σ s0)
    (h : (¬ s0 = 0 → jb_w d 94 0 [some (.ref 81), some (.ref s0), none] [] σ (jb_k (d + 1) 92 97 [some (.ref 81), some (jb_v l1), some (jb_v l2), some (jb_v l3), some (jb_v l4), some (.ref s0), none, none, none] [(jb_v l4), (.ref 82)] Q)) ∧ (s0 = 0 → (0 ≤ l4 ∧ l4 < 4) ∧ ((l2 = 0 → jb_w (d + 1) 92 7 [some (.ref 81), some (jb_v l1), some (jb_v l2), some (jb_v (l3 + 1)), some (jb_v l4), some (.ref s0), none, none, none] [] (jb_si σ 82 l4 (-1)) Q) ∧ (¬ (l2 = 0) → jb_w d 96 0 [some (.ref 81), some (jb_v l4)] [] (jb_si σ 82 l4 (-1)) (jb_k (d + 1) 92 80 [some (.ref 81), some (jb_v l1), some (jb_v l2), some (jb_v l3), some (jb_v l4), some (.ref s0), none, none, none] [] Q))))) :
    jb_w (d + 1) 92 54 [some (.ref 81), some (jb_v l1), some (jb_v l2), some (jb_v l3), some (jb_v l4), none, none, none, none] [(.ref s0)] σ Q := by
  refine jw_goto jM92 jq92_54 ?_
  refine jaS5 (p := 60) rfl jM92 jq92_58 ?_
  refine jaL5 (p := 62) rfl jM92 jq92_60 ?_
  refine jw_ifnonnull (p := 65) rfl jM92 jq92_62 (fun c1 => ?_) (fun c1 => ?_)
  · have h1 := h.1 c1
    refine jaL0 (p := 89) rfl jM92 jq92_88 ?_
    refine jw_getP (p := 92) (i := 3) (q := 82) rfl jM92 jq92_89 rfl (jo_81 hF) je_8_3 (jp_81_3 hF) ?_
    refine jiL4 (p := 94) rfl jM92 jq92_92 ?_
    refine jaL0 (p := 95) rfl jM92 jq92_94 ?_
    refine jaL5 (p := 97) rfl jM92 jq92_95 ?_
    refine jw_callV [(.ref s0)] jM92 jq92_97 rfl rfl (jo_81 hF) rfl jM94 rfl rfl ?_
    exact h1
  · have h1 := h.2 c1
    refine jaL0 (p := 66) rfl jM92 jq92_65 ?_
    refine jw_getP (p := 69) (i := 3) (q := 82) rfl jM92 jq92_66 rfl (jo_81 hF) je_8_3 (jp_81_3 hF) ?_
    refine jiL4 (p := 71) rfl jM92 jq92_69 ?_
    refine jw_iconst (p := 72) rfl jM92 jq92_71 ?_
    obtain ⟨c2, h2⟩ := h1
    refine jw_iast (p := 73) rfl jM92 jq92_72 (ja_82 hF) c2.1 c2.2 ?_
    refine jiL2 (p := 74) rfl jM92 jq92_73 ?_
    refine jw_if (p := 77) rfl jM92 jq92_74 (jc_eq hl2 jb_r0) (fun c3 => ?_) (fun c3 => ?_)
    · have h3 := h2.1 c3
      refine jiI3 (p := 238) rfl jM92 jq92_235 ?_
      refine jw_goto jM92 jq92_238 ?_
      exact h3
    · have h3 := h2.2 c3
      refine jaL0 (p := 78) rfl jM92 jq92_77 ?_
      refine jiL4 (p := 80) rfl jM92 jq92_78 ?_
      refine jw_callV [(jb_v l4)] jM92 jq92_80 rfl rfl (jo_81 hF) rfl jM96 rfl rfl ?_
      exact h3
theorem jk92_19_2 {d : Nat} {σ : ib_H} {Q : ib_O → Prop} {l1 : Int} {l2 : Int} {l3 : Int} {l4 : Int} {s0 : Int} (hF : jb_F σ) (hl1 : jb_r l1) (hl2 : jb_r l2) (hl3 : jb_r l3) (hl4 : jb_r l4) (hs0 : jb_r s0)
    (h : (¬ s0 = (-1) → (0 ≤ s0 ∧ s0 < 4) ∧ ((jb_i σ 82 s0 ≤ l1 → (l2 = 0 → jb_w (d + 1) 92 7 [some (.ref 81), some (jb_v l1), some (jb_v l2), some (jb_v (l3 + 1)), some (jb_v s0), some (.ref 0), none, none, none] [] (jb_si σ 82 s0 (-1)) Q) ∧ (¬ (l2 = 0) → jb_w d 96 0 [some (.ref 81), some (jb_v s0)] [] (jb_si σ 82 s0 (-1)) (jb_k (d + 1) 92 80 [some (.ref 81), some (jb_v l1), some (jb_v l2), some (jb_v l3), some (jb_v s0), some (.ref 0), none, none, none] [] Q))) ∧ (¬ (jb_i σ 82 s0 ≤ l1) → jb_w d 19 0 [some (.ref 63), some (jb_v (jb_i σ 82 s0))] [] σ (jb_k (d + 1) 92 51 [some (.ref 81), some (jb_v l1), some (jb_v l2), some (jb_v l3), some (jb_v s0), some (.ref 0), none, none, none] [] Q)))) ∧ (¬ (¬ s0 = (-1)) → Q (.inl (some (jb_v 1)), σ))) :
    jb_w (d + 1) 92 19 [some (.ref 81), some (jb_v l1), some (jb_v l2), some (jb_v l3), some (jb_v l4), some (.ref 0), none, none, none] [(jb_v s0)] σ Q := by
  refine jiS4 (p := 21) rfl jM92 jq92_19 ?_
  refine jiL4 (p := 23) rfl jM92 jq92_21 ?_
  refine jw_iconst (p := 24) rfl jM92 jq92_23 ?_
  refine jw_ic (p := 27) rfl jM92 jq92_24 (jc_ne hs0 (jb_rn rfl)) (fun c1 => ?_) (fun c1 => ?_)
  · have h1 := h.1 c1
    refine jaL0 (p := 30) rfl jM92 jq92_29 ?_
    refine jw_getP (p := 33) (i := 3) (q := 82) rfl jM92 jq92_30 rfl (jo_81 hF) je_8_3 (jp_81_3 hF) ?_
    refine jiL4 (p := 35) rfl jM92 jq92_33 ?_
    obtain ⟨c2, h2⟩ := h1
    refine jw_iald (p := 36) rfl jM92 jq92_35 (ja_82 hF) c2.1 c2.2 ?_
    refine jiL1 (p := 37) rfl jM92 jq92_36 ?_
    refine jw_ic (p := 40) rfl jM92 jq92_37 (jc_le (jb_r_i _ _ _) hl1) (fun c3 => ?_) (fun c3 => ?_)
    · have h3 := h2.1 c3
      refine jw_null (p := 58) rfl jM92 jq92_57 ?_
      refine jaS5 (p := 60) rfl jM92 jq92_58 ?_
      refine jaL5 (p := 62) rfl jM92 jq92_60 ?_
      refine jw_ifnonnull (p := 65) rfl jM92 jq92_62 (fun z => absurd rfl z) (fun _ => ?_)
      refine jaL0 (p := 66) rfl jM92 jq92_65 ?_
      refine jw_getP (p := 69) (i := 3) (q := 82) rfl jM92 jq92_66 rfl (jo_81 hF) je_8_3 (jp_81_3 hF) ?_
      refine jiL4 (p := 71) rfl jM92 jq92_69 ?_
      refine jw_iconst (p := 72) rfl jM92 jq92_71 ?_
      refine jw_iast (p := 73) rfl jM92 jq92_72 (ja_82 hF) c2.1 c2.2 ?_
      refine jiL2 (p := 74) rfl jM92 jq92_73 ?_
      refine jw_if (p := 77) rfl jM92 jq92_74 (jc_eq hl2 jb_r0) (fun c4 => ?_) (fun c4 => ?_)
      · have h4 := h3.1 c4
        refine jiI3 (p := 238) rfl jM92 jq92_235 ?_
        refine jw_goto jM92 jq92_238 ?_
        exact h4
      · have h4 := h3.2 c4
        refine jaL0 (p := 78) rfl jM92 jq92_77 ?_
        refine jiL4 (p := 80) rfl jM92 jq92_78 ?_
        refine jw_callV [(jb_v s0)] jM92 jq92_80 rfl rfl (jo_81 hF) rfl jM96 rfl rfl ?_
        exact h4
    · have h3 := h2.2 c3
      refine jaL0 (p := 41) rfl jM92 jq92_40 ?_
      refine jw_getP (p := 44) (i := 1) (q := 63) rfl jM92 jq92_41 rfl (jo_81 hF) je_8_1 (jp_81_1 hF) ?_
      refine jaL0 (p := 45) rfl jM92 jq92_44 ?_
      refine jw_getP (p := 48) (i := 3) (q := 82) rfl jM92 jq92_45 rfl (jo_81 hF) je_8_3 (jp_81_3 hF) ?_
      refine jiL4 (p := 50) rfl jM92 jq92_48 ?_
      refine jw_iald (p := 51) rfl jM92 jq92_50 (ja_82 hF) c2.1 c2.2 ?_
      refine jw_callV [(jb_v (jb_i σ 82 s0))] jM92 jq92_51 rfl rfl (jo_63 hF) rfl jM19 rfl rfl ?_
      exact h3
  · have h1 := h.2 c1
    refine jw_iconst (p := 28) rfl jM92 jq92_27 ?_
    exact jw_iret jM92 jq92_28 (fun _ => Or.inr rfl) h1
theorem jk92_100 {d : Nat} {σ : ib_H} {Q : ib_O → Prop} {l1 : Int} {l2 : Int} {l3 : Int} {l4 : Int} {l5 : Nat} {s1 : Int} {s2 : Int} (hF : jb_F σ) (hl1 : jb_r l1) (hl2 : jb_r l2) (hl3 : jb_r l3) (hl4 : jb_r l4) (hl5 : l5 ≠ 0 → jb_rc σ l5) (hs1 : jb_r s1) (hs2 : jb_r s2)
    (h : (0 ≤ s1 ∧ s1 < 4) ∧ ((l5 ≠ 0) ∧ ((jb_i (jb_si σ 82 s1 s2) l5 1 = 0 → jb_w d 71 0 [some (.ref 79), some (jb_v (jb_i (jb_si σ 82 s1 s2) l5 3)), none, none, none] [] (jb_si σ 82 s1 s2) (jb_k (d + 1) 92 121 [some (.ref 81), some (jb_v l1), some (jb_v l2), some (jb_v l3), some (jb_v l4), some (.ref l5), none, none, none] [] Q)) ∧ (¬ (jb_i (jb_si σ 82 s1 s2) l5 1 = 0) → jb_w (d + 1) 92 7 [some (.ref 81), some (jb_v l1), some (jb_v l2), some (jb_v (l3 + 1)), some (jb_v l4), some (.ref l5), none, none, none] [] (jb_si σ 82 s1 s2) Q)))) :
    jb_w (d + 1) 92 100 [some (.ref 81), some (jb_v l1), some (jb_v l2), some (jb_v l3), some (jb_v l4), some (.ref l5), none, none, none] [(jb_v s2), (jb_v s1), (.ref 82)] σ Q := by
  obtain ⟨c1, h1⟩ := h
  refine jw_iast (p := 101) rfl jM92 jq92_100 (ja_82 hF) c1.1 c1.2 ?_
  refine jaL5 (p := 103) rfl jM92 jq92_101 ?_
  obtain ⟨c2, h2⟩ := h1
  refine jw_getI (p := 106) (i := 1) rfl jM92 jq92_103 rfl (hl5 c2).ob jn_3_1 ?_
  refine jw_if (p := 109) rfl jM92 jq92_106 (jc_eq (jb_r_i _ _ _) jb_r0) (fun c3 => ?_) (fun c3 => ?_)
  · have h3 := h2.1 c3
    refine jaL0 (p := 113) rfl jM92 jq92_112 ?_
    refine jw_getP (p := 116) (i := 0) (q := 79) rfl jM92 jq92_113 rfl (jo_81 hF) je_8_0 (jp_81_0 hF) ?_
    refine jaL5 (p := 118) rfl jM92 jq92_116 ?_
    refine jw_getI (p := 121) (i := 3) rfl jM92 jq92_118 rfl (hl5 c2).ob jn_3_3 ?_
    refine jw_callV [(jb_v (jb_i (jb_si σ 82 s1 s2) l5 3))] jM92 jq92_121 rfl rfl (jo_79 hF) rfl jM71 rfl rfl ?_
    exact h3
  · have h3 := h2.2 c3
    refine jw_goto jM92 jq92_109 ?_
    refine jiI3 (p := 238) rfl jM92 jq92_235 ?_
    refine jw_goto jM92 jq92_238 ?_
    exact h3
theorem jk92_7_3 {d : Nat} {σ : ib_H} {Q : ib_O → Prop} {l1 : Int} {l2 : Int} {l3 : Int} {l4 : Int} {l5 : Nat} (hF : jb_F σ) (hl1 : jb_r l1) (hl2 : jb_r l2) (hl3 : jb_r l3) (hl4 : jb_r l4) (hl5 : l5 ≠ 0 → jb_rc σ l5)
    (h : (1104 ≤ l3 → Q (.inl (some (jb_v 1)), σ)) ∧ (¬ (1104 ≤ l3) → jb_w d 93 0 [some (.ref 81), some (jb_v l1), none, none] [] σ (jb_k (d + 1) 92 16 [some (.ref 81), some (jb_v l1), some (jb_v l2), some (jb_v l3), some (jb_v l4), some (.ref l5), none, none, none] [] Q))) :
    jb_w (d + 1) 92 7 [some (.ref 81), some (jb_v l1), some (jb_v l2), some (jb_v l3), some (jb_v l4), some (.ref l5), none, none, none] [] σ Q := by
  refine jiL3 (p := 8) rfl jM92 jq92_7 ?_
  refine jw_sipush (p := 11) rfl jM92 jq92_8 (by decide) ?_
  refine jw_ic (p := 14) rfl jM92 jq92_11 (jc_ge hl3 (jb_rn rfl)) (fun c1 => ?_) (fun c1 => ?_)
  · have h1 := h.1 c1
    refine jw_iconst (p := 242) rfl jM92 jq92_241 ?_
    exact jw_iret jM92 jq92_242 (fun _ => Or.inr rfl) h1
  · have h1 := h.2 c1
    refine jaL0 (p := 15) rfl jM92 jq92_14 ?_
    refine jiL1 (p := 16) rfl jM92 jq92_15 ?_
    refine jw_callV [(jb_v l1)] jM92 jq92_16 rfl rfl (jo_81 hF) rfl jM93 rfl rfl ?_
    exact h1
theorem jk92_83_2 {d : Nat} {σ : ib_H} {Q : ib_O → Prop} {l1 : Int} {l2 : Int} {l3 : Int} {l4 : Int} {l5 : Nat} {s0 : Int} (hF : jb_F σ) (hl1 : jb_r l1) (hl2 : jb_r l2) (hl3 : jb_r l3) (hl4 : jb_r l4) (hl5 : l5 ≠ 0 → jb_rc σ l5) (hs0 : jb_r s0)
    (h : (¬ s0 = 0 → jb_w d 92 7 [some (.ref 81), some (jb_v l1), some (jb_v l2), some (jb_v (l3 + 1)), some (jb_v l4), some (.ref l5), none, none, none] [] σ Q) ∧ (¬ (¬ s0 = 0) → Q (.inl (some (jb_v 0)), σ))) :
    jb_w d 92 83 [some (.ref 81), some (jb_v l1), some (jb_v l2), some (jb_v l3), some (jb_v l4), some (.ref l5), none, none, none] [(jb_v s0)] σ Q := by
  refine jw_if (p := 86) rfl jM92 jq92_83 (jc_ne hs0 jb_r0) (fun c1 => ?_) (fun c1 => ?_)
  · have h1 := h.1 c1
    refine jiI3 (p := 238) rfl jM92 jq92_235 ?_
    refine jw_goto jM92 jq92_238 ?_
    exact h1
  · have h1 := h.2 c1
    refine jw_iconst (p := 87) rfl jM92 jq92_86 ?_
    exact jw_iret jM92 jq92_87 (fun _ => Or.inl rfl) h1
theorem jk92_54_2 {d : Nat} {σ : ib_H} {Q : ib_O → Prop} {l1 : Int} {l2 : Int} {l3 : Int} {l4 : Int} {s0 : Nat} (hF : jb_F σ) (hl1 : jb_r l1) (hl2 : jb_r l2) (hl3 : jb_r l3) (hl4 : jb_r l4) (hs0 : s0 ≠ 0 → jb_rc σ s0)
    (h : (¬ s0 = 0 → jb_w d 94 0 [some (.ref 81), some (.ref s0), none] [] σ (jb_k (d + 1) 92 97 [some (.ref 81), some (jb_v l1), some (jb_v l2), some (jb_v l3), some (jb_v l4), some (.ref s0), none, none, none] [(jb_v l4), (.ref 82)] Q)) ∧ (s0 = 0 → (0 ≤ l4 ∧ l4 < 4) ∧ ((l2 = 0 → jb_w (d + 1) 92 7 [some (.ref 81), some (jb_v l1), some (jb_v l2), some (jb_v (l3 + 1)), some (jb_v l4), some (.ref s0), none, none, none] [] (jb_si σ 82 l4 (-1)) Q) ∧ (¬ (l2 = 0) → jb_w d 96 0 [some (.ref 81), some (jb_v l4)] [] (jb_si σ 82 l4 (-1)) (jb_k (d + 1) 92 80 [some (.ref 81), some (jb_v l1), some (jb_v l2), some (jb_v l3), some (jb_v l4), some (.ref s0), none, none, none] [] Q))))) :
    jb_w (d + 1) 92 54 [some (.ref 81), some (jb_v l1), some (jb_v l2), some (jb_v l3), some (jb_v l4), some (.ref 0), none, none, none] [(.ref s0)] σ Q := by
  refine jw_goto jM92 jq92_54 ?_
  refine jaS5 (p := 60) rfl jM92 jq92_58 ?_
  refine jaL5 (p := 62) rfl jM92 jq92_60 ?_
  refine jw_ifnonnull (p := 65) rfl jM92 jq92_62 (fun c1 => ?_) (fun c1 => ?_)
  · have h1 := h.1 c1
    refine jaL0 (p := 89) rfl jM92 jq92_88 ?_
    refine jw_getP (p := 92) (i := 3) (q := 82) rfl jM92 jq92_89 rfl (jo_81 hF) je_8_3 (jp_81_3 hF) ?_
    refine jiL4 (p := 94) rfl jM92 jq92_92 ?_
    refine jaL0 (p := 95) rfl jM92 jq92_94 ?_
    refine jaL5 (p := 97) rfl jM92 jq92_95 ?_
    refine jw_callV [(.ref s0)] jM92 jq92_97 rfl rfl (jo_81 hF) rfl jM94 rfl rfl ?_
    exact h1
  · have h1 := h.2 c1
    refine jaL0 (p := 66) rfl jM92 jq92_65 ?_
    refine jw_getP (p := 69) (i := 3) (q := 82) rfl jM92 jq92_66 rfl (jo_81 hF) je_8_3 (jp_81_3 hF) ?_
    refine jiL4 (p := 71) rfl jM92 jq92_69 ?_
    refine jw_iconst (p := 72) rfl jM92 jq92_71 ?_
    obtain ⟨c2, h2⟩ := h1
    refine jw_iast (p := 73) rfl jM92 jq92_72 (ja_82 hF) c2.1 c2.2 ?_
    refine jiL2 (p := 74) rfl jM92 jq92_73 ?_
    refine jw_if (p := 77) rfl jM92 jq92_74 (jc_eq hl2 jb_r0) (fun c3 => ?_) (fun c3 => ?_)
    · have h3 := h2.1 c3
      refine jiI3 (p := 238) rfl jM92 jq92_235 ?_
      refine jw_goto jM92 jq92_238 ?_
      exact h3
    · have h3 := h2.2 c3
      refine jaL0 (p := 78) rfl jM92 jq92_77 ?_
      refine jiL4 (p := 80) rfl jM92 jq92_78 ?_
      refine jw_callV [(jb_v l4)] jM92 jq92_80 rfl rfl (jo_81 hF) rfl jM96 rfl rfl ?_
      exact h3
theorem jk92_124 {d : Nat} {σ : ib_H} {Q : ib_O → Prop} {l1 : Int} {l2 : Int} {l3 : Int} {l4 : Int} {l5 : Nat} {s0 : Int} (hF : jb_F σ) (hl1 : jb_r l1) (hl2 : jb_r l2) (hl3 : jb_r l3) (hl4 : jb_r l4) (hl5 : l5 ≠ 0 → jb_rc σ l5) (hs0 : jb_r s0)
    (h : (s0 = 0 → jb_w (d + 1) 92 163 [some (.ref 81), some (jb_v l1), some (jb_v l2), some (jb_v l3), some (jb_v l4), some (.ref l5), some (jb_v 0), some (jb_v 0), none] [] σ Q) ∧ (¬ (s0 = 0) → jb_w d 95 0 [some (.ref 81), some (.ref l5), none] [] σ (jb_k (d + 1) 92 130 [some (.ref 81), some (jb_v l1), some (jb_v l2), some (jb_v l3), some (jb_v l4), some (.ref l5), none, none, none] [] Q))) :
    jb_w (d + 1) 92 124 [some (.ref 81), some (jb_v l1), some (jb_v l2), some (jb_v l3), some (jb_v l4), some (.ref l5), none, none, none] [(jb_v s0)] σ Q := by
  refine jw_if (p := 127) rfl jM92 jq92_124 (jc_eq hs0 jb_r0) (fun c1 => ?_) (fun c1 => ?_)
  · have h1 := h.1 c1
    refine jw_iconst (p := 158) rfl jM92 jq92_157 ?_
    refine jiS6 (p := 160) rfl jM92 jq92_158 ?_
    refine jw_iconst (p := 161) rfl jM92 jq92_160 ?_
    refine jiS7 (p := 163) rfl jM92 jq92_161 ?_
    exact h1
  · have h1 := h.2 c1
    refine jaL0 (p := 128) rfl jM92 jq92_127 ?_
    refine jaL5 (p := 130) rfl jM92 jq92_128 ?_
    refine jw_callV [(.ref l5)] jM92 jq92_130 rfl rfl (jo_81 hF) rfl jM95 rfl rfl ?_
    exact h1
theorem jk92_19_3 {d : Nat} {σ : ib_H} {Q : ib_O → Prop} {l1 : Int} {l2 : Int} {l3 : Int} {l4 : Int} {l5 : Nat} {s0 : Int} (hF : jb_F σ) (hl1 : jb_r l1) (hl2 : jb_r l2) (hl3 : jb_r l3) (hl4 : jb_r l4) (hl5 : l5 ≠ 0 → jb_rc σ l5) (hs0 : jb_r s0)
    (h : (¬ s0 = (-1) → (0 ≤ s0 ∧ s0 < 4) ∧ ((jb_i σ 82 s0 ≤ l1 → (l2 = 0 → jb_w (d + 1) 92 7 [some (.ref 81), some (jb_v l1), some (jb_v l2), some (jb_v (l3 + 1)), some (jb_v s0), some (.ref 0), none, none, none] [] (jb_si σ 82 s0 (-1)) Q) ∧ (¬ (l2 = 0) → jb_w d 96 0 [some (.ref 81), some (jb_v s0)] [] (jb_si σ 82 s0 (-1)) (jb_k (d + 1) 92 80 [some (.ref 81), some (jb_v l1), some (jb_v l2), some (jb_v l3), some (jb_v s0), some (.ref 0), none, none, none] [] Q))) ∧ (¬ (jb_i σ 82 s0 ≤ l1) → jb_w d 19 0 [some (.ref 63), some (jb_v (jb_i σ 82 s0))] [] σ (jb_k (d + 1) 92 51 [some (.ref 81), some (jb_v l1), some (jb_v l2), some (jb_v l3), some (jb_v s0), some (.ref l5), none, none, none] [] Q)))) ∧ (¬ (¬ s0 = (-1)) → Q (.inl (some (jb_v 1)), σ))) :
    jb_w (d + 1) 92 19 [some (.ref 81), some (jb_v l1), some (jb_v l2), some (jb_v l3), some (jb_v l4), some (.ref l5), none, none, none] [(jb_v s0)] σ Q := by
  refine jiS4 (p := 21) rfl jM92 jq92_19 ?_
  refine jiL4 (p := 23) rfl jM92 jq92_21 ?_
  refine jw_iconst (p := 24) rfl jM92 jq92_23 ?_
  refine jw_ic (p := 27) rfl jM92 jq92_24 (jc_ne hs0 (jb_rn rfl)) (fun c1 => ?_) (fun c1 => ?_)
  · have h1 := h.1 c1
    refine jaL0 (p := 30) rfl jM92 jq92_29 ?_
    refine jw_getP (p := 33) (i := 3) (q := 82) rfl jM92 jq92_30 rfl (jo_81 hF) je_8_3 (jp_81_3 hF) ?_
    refine jiL4 (p := 35) rfl jM92 jq92_33 ?_
    obtain ⟨c2, h2⟩ := h1
    refine jw_iald (p := 36) rfl jM92 jq92_35 (ja_82 hF) c2.1 c2.2 ?_
    refine jiL1 (p := 37) rfl jM92 jq92_36 ?_
    refine jw_ic (p := 40) rfl jM92 jq92_37 (jc_le (jb_r_i _ _ _) hl1) (fun c3 => ?_) (fun c3 => ?_)
    · have h3 := h2.1 c3
      refine jw_null (p := 58) rfl jM92 jq92_57 ?_
      refine jaS5 (p := 60) rfl jM92 jq92_58 ?_
      refine jaL5 (p := 62) rfl jM92 jq92_60 ?_
      refine jw_ifnonnull (p := 65) rfl jM92 jq92_62 (fun z => absurd rfl z) (fun _ => ?_)
      refine jaL0 (p := 66) rfl jM92 jq92_65 ?_
      refine jw_getP (p := 69) (i := 3) (q := 82) rfl jM92 jq92_66 rfl (jo_81 hF) je_8_3 (jp_81_3 hF) ?_
      refine jiL4 (p := 71) rfl jM92 jq92_69 ?_
      refine jw_iconst (p := 72) rfl jM92 jq92_71 ?_
      refine jw_iast (p := 73) rfl jM92 jq92_72 (ja_82 hF) c2.1 c2.2 ?_
      refine jiL2 (p := 74) rfl jM92 jq92_73 ?_
      refine jw_if (p := 77) rfl jM92 jq92_74 (jc_eq hl2 jb_r0) (fun c4 => ?_) (fun c4 => ?_)
      · have h4 := h3.1 c4
        refine jiI3 (p := 238) rfl jM92 jq92_235 ?_
        refine jw_goto jM92 jq92_238 ?_
        exact h4
      · have h4 := h3.2 c4
        refine jaL0 (p := 78) rfl jM92 jq92_77 ?_
        refine jiL4 (p := 80) rfl jM92 jq92_78 ?_
        refine jw_callV [(jb_v s0)] jM92 jq92_80 rfl rfl (jo_81 hF) rfl jM96 rfl rfl ?_
        exact h4
    · have h3 := h2.2 c3
      refine jaL0 (p := 41) rfl jM92 jq92_40 ?_
      refine jw_getP (p := 44) (i := 1) (q := 63) rfl jM92 jq92_41 rfl (jo_81 hF) je_8_1 (jp_81_1 hF) ?_
      refine jaL0 (p := 45) rfl jM92 jq92_44 ?_
      refine jw_getP (p := 48) (i := 3) (q := 82) rfl jM92 jq92_45 rfl (jo_81 hF) je_8_3 (jp_81_3 hF) ?_
      refine jiL4 (p := 50) rfl jM92 jq92_48 ?_
      refine jw_iald (p := 51) rfl jM92 jq92_50 (ja_82 hF) c2.1 c2.2 ?_
      refine jw_callV [(jb_v (jb_i σ 82 s0))] jM92 jq92_51 rfl rfl (jo_63 hF) rfl jM19 rfl rfl ?_
      exact h3
  · have h1 := h.2 c1
    refine jw_iconst (p := 28) rfl jM92 jq92_27 ?_
    exact jw_iret jM92 jq92_28 (fun _ => Or.inr rfl) h1
theorem jk92_163 {d : Nat} {σ : ib_H} {Q : ib_O → Prop} {l1 : Int} {l2 : Int} {l3 : Int} {l4 : Int} {l5 : Nat} {l6 : Int} {l7 : Int} (hF : jb_F σ) (hl1 : jb_r l1) (hl2 : jb_r l2) (hl3 : jb_r l3) (hl4 : jb_r l4) (hl5 : l5 ≠ 0 → jb_rc σ l5) (hl6 : jb_r l6) (hl7 : jb_r l7)
    (h : (24 ≤ l7 → (¬ l6 = 0 → jb_w (d + 1) 92 7 [some (.ref 81), some (jb_v l1), some (jb_v l2), some (jb_v (l3 + 1)), some (jb_v l4), some (.ref l5), some (jb_v l6), some (jb_v l7), none] [] (jb_si σ 81 4 ((jb_i σ 81 4) + 1)) Q) ∧ (¬ (¬ l6 = 0) → Q (.inl (some (jb_v 0)), σ))) ∧ (¬ (24 ≤ l7) → (l6 = 0 → (¬ l6 = 0 → jb_w (d + 1) 92 7 [some (.ref 81), some (jb_v l1), some (jb_v l2), some (jb_v (l3 + 1)), some (jb_v l4), some (.ref l5), some (jb_v l6), some (jb_v l7), none] [] (jb_si σ 81 4 ((jb_i σ 81 4) + 1)) Q) ∧ (¬ (¬ l6 = 0) → Q (.inl (some (jb_v 0)), σ))) ∧ (¬ (l6 = 0) → jb_w d 81 0 [some (.ref 79), none] [] σ (jb_k (d + 1) 92 179 [some (.ref 81), some (jb_v l1), some (jb_v l2), some (jb_v l3), some (jb_v l4), some (.ref l5), some (jb_v l6), some (jb_v l7), none] [] Q)))) :
    jb_w (d + 1) 92 163 [some (.ref 81), some (jb_v l1), some (jb_v l2), some (jb_v l3), some (jb_v l4), some (.ref l5), some (jb_v l6), some (jb_v l7), none] [] σ Q := by
  refine jiL7 (p := 165) rfl jM92 jq92_163 ?_
  refine jw_bipush (p := 167) rfl jM92 jq92_165 (by decide) ?_
  refine jw_ic (p := 170) rfl jM92 jq92_167 (jc_ge hl7 (jb_rn rfl)) (fun c1 => ?_) (fun c1 => ?_)
  · have h1 := h.1 c1
    refine jiL6 (p := 220) rfl jM92 jq92_218 ?_
    refine jw_if (p := 223) rfl jM92 jq92_220 (jc_ne hl6 jb_r0) (fun c2 => ?_) (fun c2 => ?_)
    · have h2 := h1.1 c2
      refine jaL0 (p := 226) rfl jM92 jq92_225 ?_
      refine jw_dupA (p := 227) rfl jM92 jq92_226 ?_
      refine jw_getI (p := 230) (i := 4) rfl jM92 jq92_227 rfl (jo_81 hF) jn_8_4 ?_
      refine jw_iconst (p := 231) rfl jM92 jq92_230 ?_
      refine jw_iadd (p := 232) rfl jM92 jq92_231 ?_
      refine jw_putI (p := 235) (i := 4) rfl jM92 jq92_232 rfl (jo_81 hF) (Or.inl jz_8_4) ?_
      refine jiI3 (p := 238) rfl jM92 jq92_235 ?_
      refine jw_goto jM92 jq92_238 ?_
      exact h2
    · have h2 := h1.2 c2
      refine jw_iconst (p := 224) rfl jM92 jq92_223 ?_
      exact jw_iret jM92 jq92_224 (fun _ => Or.inl rfl) h2
  · have h1 := h.2 c1
    refine jiL6 (p := 172) rfl jM92 jq92_170 ?_
    refine jw_if (p := 175) rfl jM92 jq92_172 (jc_eq hl6 jb_r0) (fun c3 => ?_) (fun c3 => ?_)
    · have h3 := h1.1 c3
      refine jiL6 (p := 220) rfl jM92 jq92_218 ?_
      refine jw_if (p := 223) rfl jM92 jq92_220 (jc_ne hl6 jb_r0) (fun c4 => ?_) (fun c4 => ?_)
      · have h4 := h3.1 c4
        refine jaL0 (p := 226) rfl jM92 jq92_225 ?_
        refine jw_dupA (p := 227) rfl jM92 jq92_226 ?_
        refine jw_getI (p := 230) (i := 4) rfl jM92 jq92_227 rfl (jo_81 hF) jn_8_4 ?_
        refine jw_iconst (p := 231) rfl jM92 jq92_230 ?_
        refine jw_iadd (p := 232) rfl jM92 jq92_231 ?_
        refine jw_putI (p := 235) (i := 4) rfl jM92 jq92_232 rfl (jo_81 hF) (Or.inl jz_8_4) ?_
        refine jiI3 (p := 238) rfl jM92 jq92_235 ?_
        refine jw_goto jM92 jq92_238 ?_
        exact h4
      · have h4 := h3.2 c4
        refine jw_iconst (p := 224) rfl jM92 jq92_223 ?_
        exact jw_iret jM92 jq92_224 (fun _ => Or.inl rfl) h4
    · have h3 := h1.2 c3
      refine jaL0 (p := 176) rfl jM92 jq92_175 ?_
      refine jw_getP (p := 179) (i := 0) (q := 79) rfl jM92 jq92_176 rfl (jo_81 hF) je_8_0 (jp_81_0 hF) ?_
      refine jw_callV [] jM92 jq92_179 rfl rfl (jo_79 hF) rfl jM81 rfl rfl ?_
      exact h3
theorem jk92_133 {d : Nat} {σ : ib_H} {Q : ib_O → Prop} {l1 : Int} {l2 : Int} {l3 : Int} {l4 : Int} {l5 : Nat} {s0 : Int} (hF : jb_F σ) (hl1 : jb_r l1) (hl2 : jb_r l2) (hl3 : jb_r l3) (hl4 : jb_r l4) (hl5 : l5 ≠ 0 → jb_rc σ l5) (hs0 : jb_r s0)
    (h : (s0 = 0 → jb_w (d + 1) 92 163 [some (.ref 81), some (jb_v l1), some (jb_v l2), some (jb_v l3), some (jb_v l4), some (.ref l5), some (jb_v 0), some (jb_v 0), none] [] σ Q) ∧ (¬ (s0 = 0) → jb_w d 80 0 [some (.ref 79), some (jb_v (jb_i σ 63 4)), none, none, none, none] [] σ (jb_k (d + 1) 92 147 [some (.ref 81), some (jb_v l1), some (jb_v l2), some (jb_v l3), some (jb_v l4), some (.ref l5), none, none, none] [] Q))) :
    jb_w (d + 1) 92 133 [some (.ref 81), some (jb_v l1), some (jb_v l2), some (jb_v l3), some (jb_v l4), some (.ref l5), none, none, none] [(jb_v s0)] σ Q := by
  refine jw_if (p := 136) rfl jM92 jq92_133 (jc_eq hs0 jb_r0) (fun c1 => ?_) (fun c1 => ?_)
  · have h1 := h.1 c1
    refine jw_iconst (p := 158) rfl jM92 jq92_157 ?_
    refine jiS6 (p := 160) rfl jM92 jq92_158 ?_
    refine jw_iconst (p := 161) rfl jM92 jq92_160 ?_
    refine jiS7 (p := 163) rfl jM92 jq92_161 ?_
    exact h1
  · have h1 := h.2 c1
    refine jaL0 (p := 137) rfl jM92 jq92_136 ?_
    refine jw_getP (p := 140) (i := 0) (q := 79) rfl jM92 jq92_137 rfl (jo_81 hF) je_8_0 (jp_81_0 hF) ?_
    refine jaL0 (p := 141) rfl jM92 jq92_140 ?_
    refine jw_getP (p := 144) (i := 1) (q := 63) rfl jM92 jq92_141 rfl (jo_81 hF) je_8_1 (jp_81_1 hF) ?_
    refine jw_getI (p := 147) (i := 4) rfl jM92 jq92_144 rfl (jo_63 hF) jn_2_4 ?_
    refine jw_callV [(jb_v (jb_i σ 63 4))] jM92 jq92_147 rfl rfl (jo_79 hF) rfl jM80 rfl rfl ?_
    exact h1
theorem jk92_54_3 {d : Nat} {σ : ib_H} {Q : ib_O → Prop} {l1 : Int} {l2 : Int} {l3 : Int} {l4 : Int} {l5 : Nat} {s0 : Nat} (hF : jb_F σ) (hl1 : jb_r l1) (hl2 : jb_r l2) (hl3 : jb_r l3) (hl4 : jb_r l4) (hl5 : l5 ≠ 0 → jb_rc σ l5) (hs0 : s0 ≠ 0 → jb_rc σ s0)
    (h : (¬ s0 = 0 → jb_w d 94 0 [some (.ref 81), some (.ref s0), none] [] σ (jb_k (d + 1) 92 97 [some (.ref 81), some (jb_v l1), some (jb_v l2), some (jb_v l3), some (jb_v l4), some (.ref s0), none, none, none] [(jb_v l4), (.ref 82)] Q)) ∧ (s0 = 0 → (0 ≤ l4 ∧ l4 < 4) ∧ ((l2 = 0 → jb_w (d + 1) 92 7 [some (.ref 81), some (jb_v l1), some (jb_v l2), some (jb_v (l3 + 1)), some (jb_v l4), some (.ref s0), none, none, none] [] (jb_si σ 82 l4 (-1)) Q) ∧ (¬ (l2 = 0) → jb_w d 96 0 [some (.ref 81), some (jb_v l4)] [] (jb_si σ 82 l4 (-1)) (jb_k (d + 1) 92 80 [some (.ref 81), some (jb_v l1), some (jb_v l2), some (jb_v l3), some (jb_v l4), some (.ref s0), none, none, none] [] Q))))) :
    jb_w (d + 1) 92 54 [some (.ref 81), some (jb_v l1), some (jb_v l2), some (jb_v l3), some (jb_v l4), some (.ref l5), none, none, none] [(.ref s0)] σ Q := by
  refine jw_goto jM92 jq92_54 ?_
  refine jaS5 (p := 60) rfl jM92 jq92_58 ?_
  refine jaL5 (p := 62) rfl jM92 jq92_60 ?_
  refine jw_ifnonnull (p := 65) rfl jM92 jq92_62 (fun c1 => ?_) (fun c1 => ?_)
  · have h1 := h.1 c1
    refine jaL0 (p := 89) rfl jM92 jq92_88 ?_
    refine jw_getP (p := 92) (i := 3) (q := 82) rfl jM92 jq92_89 rfl (jo_81 hF) je_8_3 (jp_81_3 hF) ?_
    refine jiL4 (p := 94) rfl jM92 jq92_92 ?_
    refine jaL0 (p := 95) rfl jM92 jq92_94 ?_
    refine jaL5 (p := 97) rfl jM92 jq92_95 ?_
    refine jw_callV [(.ref s0)] jM92 jq92_97 rfl rfl (jo_81 hF) rfl jM94 rfl rfl ?_
    exact h1
  · have h1 := h.2 c1
    refine jaL0 (p := 66) rfl jM92 jq92_65 ?_
    refine jw_getP (p := 69) (i := 3) (q := 82) rfl jM92 jq92_66 rfl (jo_81 hF) je_8_3 (jp_81_3 hF) ?_
    refine jiL4 (p := 71) rfl jM92 jq92_69 ?_
    refine jw_iconst (p := 72) rfl jM92 jq92_71 ?_
    obtain ⟨c2, h2⟩ := h1
    refine jw_iast (p := 73) rfl jM92 jq92_72 (ja_82 hF) c2.1 c2.2 ?_
    refine jiL2 (p := 74) rfl jM92 jq92_73 ?_
    refine jw_if (p := 77) rfl jM92 jq92_74 (jc_eq hl2 jb_r0) (fun c3 => ?_) (fun c3 => ?_)
    · have h3 := h2.1 c3
      refine jiI3 (p := 238) rfl jM92 jq92_235 ?_
      refine jw_goto jM92 jq92_238 ?_
      exact h3
    · have h3 := h2.2 c3
      refine jaL0 (p := 78) rfl jM92 jq92_77 ?_
      refine jiL4 (p := 80) rfl jM92 jq92_78 ?_
      refine jw_callV [(jb_v l4)] jM92 jq92_80 rfl rfl (jo_81 hF) rfl jM96 rfl rfl ?_
      exact h3
theorem jk92_7_4 {d : Nat} {σ : ib_H} {Q : ib_O → Prop} {l1 : Int} {l2 : Int} {l3 : Int} {l4 : Int} {l5 : Nat} {l6 : Int} {l7 : Int} (hF : jb_F σ) (hl1 : jb_r l1) (hl2 : jb_r l2) (hl3 : jb_r l3) (hl4 : jb_r l4) (hl5 : l5 ≠ 0 → jb_rc σ l5) (hl6 : jb_r l6) (hl7 : jb_r l7)
    (h : (1104 ≤ l3 → Q (.inl (some (jb_v 1)), σ)) ∧ (¬ (1104 ≤ l3) → jb_w d 93 0 [some (.ref 81), some (jb_v l1), none, none] [] σ (jb_k (d + 1) 92 16 [some (.ref 81), some (jb_v l1), some (jb_v l2), some (jb_v l3), some (jb_v l4), some (.ref l5), some (jb_v l6), some (jb_v l7), none] [] Q))) :
    jb_w (d + 1) 92 7 [some (.ref 81), some (jb_v l1), some (jb_v l2), some (jb_v l3), some (jb_v l4), some (.ref l5), some (jb_v l6), some (jb_v l7), none] [] σ Q := by
  refine jiL3 (p := 8) rfl jM92 jq92_7 ?_
  refine jw_sipush (p := 11) rfl jM92 jq92_8 (by decide) ?_
  refine jw_ic (p := 14) rfl jM92 jq92_11 (jc_ge hl3 (jb_rn rfl)) (fun c1 => ?_) (fun c1 => ?_)
  · have h1 := h.1 c1
    refine jw_iconst (p := 242) rfl jM92 jq92_241 ?_
    exact jw_iret jM92 jq92_242 (fun _ => Or.inr rfl) h1
  · have h1 := h.2 c1
    refine jaL0 (p := 15) rfl jM92 jq92_14 ?_
    refine jiL1 (p := 16) rfl jM92 jq92_15 ?_
    refine jw_callV [(jb_v l1)] jM92 jq92_16 rfl rfl (jo_81 hF) rfl jM93 rfl rfl ?_
    exact h1
theorem jk92_182 {d : Nat} {σ : ib_H} {Q : ib_O → Prop} {l1 : Int} {l2 : Int} {l3 : Int} {l4 : Int} {l5 : Nat} {l6 : Int} {l7 : Int} {s0 : Int} (hF : jb_F σ) (hl1 : jb_r l1) (hl2 : jb_r l2) (hl3 : jb_r l3) (hl4 : jb_r l4) (hl5 : l5 ≠ 0 → jb_rc σ l5) (hl6 : jb_r l6) (hl7 : jb_r l7) (hs0 : jb_r s0)
    (h : (s0 = 0 → (¬ l6 = 0 → jb_w (d + 1) 92 7 [some (.ref 81), some (jb_v l1), some (jb_v l2), some (jb_v (l3 + 1)), some (jb_v l4), some (.ref l5), some (jb_v l6), some (jb_v l7), none] [] (jb_si σ 81 4 ((jb_i σ 81 4) + 1)) Q) ∧ (¬ (¬ l6 = 0) → Q (.inl (some (jb_v 0)), σ))) ∧ (¬ (s0 = 0) → jb_w d 70 0 [some (.ref 79)] [] σ (jb_k (d + 1) 92 189 [some (.ref 81), some (jb_v l1), some (jb_v l2), some (jb_v l3), some (jb_v l4), some (.ref l5), some (jb_v l6), some (jb_v l7), none] [] Q))) :
    jb_w (d + 1) 92 182 [some (.ref 81), some (jb_v l1), some (jb_v l2), some (jb_v l3), some (jb_v l4), some (.ref l5), some (jb_v l6), some (jb_v l7), none] [(jb_v s0)] σ Q := by
  refine jw_if (p := 185) rfl jM92 jq92_182 (jc_eq hs0 jb_r0) (fun c1 => ?_) (fun c1 => ?_)
  · have h1 := h.1 c1
    refine jiL6 (p := 220) rfl jM92 jq92_218 ?_
    refine jw_if (p := 223) rfl jM92 jq92_220 (jc_ne hl6 jb_r0) (fun c2 => ?_) (fun c2 => ?_)
    · have h2 := h1.1 c2
      refine jaL0 (p := 226) rfl jM92 jq92_225 ?_
      refine jw_dupA (p := 227) rfl jM92 jq92_226 ?_
      refine jw_getI (p := 230) (i := 4) rfl jM92 jq92_227 rfl (jo_81 hF) jn_8_4 ?_
      refine jw_iconst (p := 231) rfl jM92 jq92_230 ?_
      refine jw_iadd (p := 232) rfl jM92 jq92_231 ?_
      refine jw_putI (p := 235) (i := 4) rfl jM92 jq92_232 rfl (jo_81 hF) (Or.inl jz_8_4) ?_
      refine jiI3 (p := 238) rfl jM92 jq92_235 ?_
      refine jw_goto jM92 jq92_238 ?_
      exact h2
    · have h2 := h1.2 c2
      refine jw_iconst (p := 224) rfl jM92 jq92_223 ?_
      exact jw_iret jM92 jq92_224 (fun _ => Or.inl rfl) h2
  · have h1 := h.2 c1
    refine jaL0 (p := 186) rfl jM92 jq92_185 ?_
    refine jw_getP (p := 189) (i := 0) (q := 79) rfl jM92 jq92_186 rfl (jo_81 hF) je_8_0 (jp_81_0 hF) ?_
    refine jw_callV [] jM92 jq92_189 rfl rfl (jo_79 hF) rfl jM70 rfl rfl ?_
    exact h1
theorem jk92_150 {d : Nat} {σ : ib_H} {Q : ib_O → Prop} {l1 : Int} {l2 : Int} {l3 : Int} {l4 : Int} {l5 : Nat} {s0 : Int} (hF : jb_F σ) (hl1 : jb_r l1) (hl2 : jb_r l2) (hl3 : jb_r l3) (hl4 : jb_r l4) (hl5 : l5 ≠ 0 → jb_rc σ l5) (hs0 : jb_r s0)
    (h : (s0 = 0 → jb_w d 92 163 [some (.ref 81), some (jb_v l1), some (jb_v l2), some (jb_v l3), some (jb_v l4), some (.ref l5), some (jb_v 0), some (jb_v 0), none] [] σ Q) ∧ (¬ (s0 = 0) → jb_w d 92 163 [some (.ref 81), some (jb_v l1), some (jb_v l2), some (jb_v l3), some (jb_v l4), some (.ref l5), some (jb_v 1), some (jb_v 0), none] [] σ Q)) :
    jb_w d 92 150 [some (.ref 81), some (jb_v l1), some (jb_v l2), some (jb_v l3), some (jb_v l4), some (.ref l5), none, none, none] [(jb_v s0)] σ Q := by
  refine jw_if (p := 153) rfl jM92 jq92_150 (jc_eq hs0 jb_r0) (fun c1 => ?_) (fun c1 => ?_)
  · have h1 := h.1 c1
    refine jw_iconst (p := 158) rfl jM92 jq92_157 ?_
    refine jiS6 (p := 160) rfl jM92 jq92_158 ?_
    refine jw_iconst (p := 161) rfl jM92 jq92_160 ?_
    refine jiS7 (p := 163) rfl jM92 jq92_161 ?_
    exact h1
  · have h1 := h.2 c1
    refine jw_iconst (p := 154) rfl jM92 jq92_153 ?_
    refine jw_goto jM92 jq92_154 ?_
    refine jiS6 (p := 160) rfl jM92 jq92_158 ?_
    refine jw_iconst (p := 161) rfl jM92 jq92_160 ?_
    refine jiS7 (p := 163) rfl jM92 jq92_161 ?_
    exact h1
theorem jk92_19_4 {d : Nat} {σ : ib_H} {Q : ib_O → Prop} {l1 : Int} {l2 : Int} {l3 : Int} {l4 : Int} {l5 : Nat} {l6 : Int} {l7 : Int} {s0 : Int} (hF : jb_F σ) (hl1 : jb_r l1) (hl2 : jb_r l2) (hl3 : jb_r l3) (hl4 : jb_r l4) (hl5 : l5 ≠ 0 → jb_rc σ l5) (hl6 : jb_r l6) (hl7 : jb_r l7) (hs0 : jb_r s0)
    (h : (¬ s0 = (-1) → (0 ≤ s0 ∧ s0 < 4) ∧ ((jb_i σ 82 s0 ≤ l1 → (l2 = 0 → jb_w (d + 1) 92 7 [some (.ref 81), some (jb_v l1), some (jb_v l2), some (jb_v (l3 + 1)), some (jb_v s0), some (.ref 0), some (jb_v l6), some (jb_v l7), none] [] (jb_si σ 82 s0 (-1)) Q) ∧ (¬ (l2 = 0) → jb_w d 96 0 [some (.ref 81), some (jb_v s0)] [] (jb_si σ 82 s0 (-1)) (jb_k (d + 1) 92 80 [some (.ref 81), some (jb_v l1), some (jb_v l2), some (jb_v l3), some (jb_v s0), some (.ref 0), some (jb_v l6), some (jb_v l7), none] [] Q))) ∧ (¬ (jb_i σ 82 s0 ≤ l1) → jb_w d 19 0 [some (.ref 63), some (jb_v (jb_i σ 82 s0))] [] σ (jb_k (d + 1) 92 51 [some (.ref 81), some (jb_v l1), some (jb_v l2), some (jb_v l3), some (jb_v s0), some (.ref l5), some (jb_v l6), some (jb_v l7), none] [] Q)))) ∧ (¬ (¬ s0 = (-1)) → Q (.inl (some (jb_v 1)), σ))) :
    jb_w (d + 1) 92 19 [some (.ref 81), some (jb_v l1), some (jb_v l2), some (jb_v l3), some (jb_v l4), some (.ref l5), some (jb_v l6), some (jb_v l7), none] [(jb_v s0)] σ Q := by
  refine jiS4 (p := 21) rfl jM92 jq92_19 ?_
  refine jiL4 (p := 23) rfl jM92 jq92_21 ?_
  refine jw_iconst (p := 24) rfl jM92 jq92_23 ?_
  refine jw_ic (p := 27) rfl jM92 jq92_24 (jc_ne hs0 (jb_rn rfl)) (fun c1 => ?_) (fun c1 => ?_)
  · have h1 := h.1 c1
    refine jaL0 (p := 30) rfl jM92 jq92_29 ?_
    refine jw_getP (p := 33) (i := 3) (q := 82) rfl jM92 jq92_30 rfl (jo_81 hF) je_8_3 (jp_81_3 hF) ?_
    refine jiL4 (p := 35) rfl jM92 jq92_33 ?_
    obtain ⟨c2, h2⟩ := h1
    refine jw_iald (p := 36) rfl jM92 jq92_35 (ja_82 hF) c2.1 c2.2 ?_
    refine jiL1 (p := 37) rfl jM92 jq92_36 ?_
    refine jw_ic (p := 40) rfl jM92 jq92_37 (jc_le (jb_r_i _ _ _) hl1) (fun c3 => ?_) (fun c3 => ?_)
    · have h3 := h2.1 c3
      refine jw_null (p := 58) rfl jM92 jq92_57 ?_
      refine jaS5 (p := 60) rfl jM92 jq92_58 ?_
      refine jaL5 (p := 62) rfl jM92 jq92_60 ?_
      refine jw_ifnonnull (p := 65) rfl jM92 jq92_62 (fun z => absurd rfl z) (fun _ => ?_)
      refine jaL0 (p := 66) rfl jM92 jq92_65 ?_
      refine jw_getP (p := 69) (i := 3) (q := 82) rfl jM92 jq92_66 rfl (jo_81 hF) je_8_3 (jp_81_3 hF) ?_
      refine jiL4 (p := 71) rfl jM92 jq92_69 ?_
      refine jw_iconst (p := 72) rfl jM92 jq92_71 ?_
      refine jw_iast (p := 73) rfl jM92 jq92_72 (ja_82 hF) c2.1 c2.2 ?_
      refine jiL2 (p := 74) rfl jM92 jq92_73 ?_
      refine jw_if (p := 77) rfl jM92 jq92_74 (jc_eq hl2 jb_r0) (fun c4 => ?_) (fun c4 => ?_)
      · have h4 := h3.1 c4
        refine jiI3 (p := 238) rfl jM92 jq92_235 ?_
        refine jw_goto jM92 jq92_238 ?_
        exact h4
      · have h4 := h3.2 c4
        refine jaL0 (p := 78) rfl jM92 jq92_77 ?_
        refine jiL4 (p := 80) rfl jM92 jq92_78 ?_
        refine jw_callV [(jb_v s0)] jM92 jq92_80 rfl rfl (jo_81 hF) rfl jM96 rfl rfl ?_
        exact h4
    · have h3 := h2.2 c3
      refine jaL0 (p := 41) rfl jM92 jq92_40 ?_
      refine jw_getP (p := 44) (i := 1) (q := 63) rfl jM92 jq92_41 rfl (jo_81 hF) je_8_1 (jp_81_1 hF) ?_
      refine jaL0 (p := 45) rfl jM92 jq92_44 ?_
      refine jw_getP (p := 48) (i := 3) (q := 82) rfl jM92 jq92_45 rfl (jo_81 hF) je_8_3 (jp_81_3 hF) ?_
      refine jiL4 (p := 50) rfl jM92 jq92_48 ?_
      refine jw_iald (p := 51) rfl jM92 jq92_50 (ja_82 hF) c2.1 c2.2 ?_
      refine jw_callV [(jb_v (jb_i σ 82 s0))] jM92 jq92_51 rfl rfl (jo_63 hF) rfl jM19 rfl rfl ?_
      exact h3
  · have h1 := h.2 c1
    refine jw_iconst (p := 28) rfl jM92 jq92_27 ?_
    exact jw_iret jM92 jq92_28 (fun _ => Or.inr rfl) h1
theorem jk92_192 {d : Nat} {σ : ib_H} {Q : ib_O → Prop} {l1 : Int} {l2 : Int} {l3 : Int} {l4 : Int} {l5 : Nat} {l6 : Int} {l7 : Int} {s0 : Int} (hF : jb_F σ) (hl1 : jb_r l1) (hl2 : jb_r l2) (hl3 : jb_r l3) (hl4 : jb_r l4) (hl5 : l5 ≠ 0 → jb_rc σ l5) (hl6 : jb_r l6) (hl7 : jb_r l7) (hs0 : jb_r s0)
    (h : jb_w d 82 0 [some (.ref 79)] [] σ (jb_k (d + 1) 92 204 [some (.ref 81), some (jb_v l1), some (jb_v l2), some (jb_v l3), some (jb_v l4), some (.ref l5), some (jb_v l6), some (jb_v l7), some (jb_v s0)] [(jb_v s0), (.ref 79)] Q)) :
    jb_w (d + 1) 92 192 [some (.ref 81), some (jb_v l1), some (jb_v l2), some (jb_v l3), some (jb_v l4), some (.ref l5), some (jb_v l6), some (jb_v l7), none] [(jb_v s0)] σ Q := by
  refine jiS8 (p := 194) rfl jM92 jq92_192 ?_
  refine jaL0 (p := 195) rfl jM92 jq92_194 ?_
  refine jw_getP (p := 198) (i := 0) (q := 79) rfl jM92 jq92_195 rfl (jo_81 hF) je_8_0 (jp_81_0 hF) ?_
  refine jiL8 (p := 200) rfl jM92 jq92_198 ?_
  refine jaL0 (p := 201) rfl jM92 jq92_200 ?_
  refine jw_getP (p := 204) (i := 0) (q := 79) rfl jM92 jq92_201 rfl (jo_81 hF) je_8_0 (jp_81_0 hF) ?_
  refine jw_callV [] jM92 jq92_204 rfl rfl (jo_79 hF) rfl jM82 rfl rfl ?_
  exact h
theorem jk92_7_5 {d : Nat} {σ : ib_H} {Q : ib_O → Prop} {l1 : Int} {l2 : Int} {l3 : Int} {l4 : Int} {l6 : Int} {l7 : Int} (hF : jb_F σ) (hl1 : jb_r l1) (hl2 : jb_r l2) (hl3 : jb_r l3) (hl4 : jb_r l4) (hl6 : jb_r l6) (hl7 : jb_r l7)
    (h : (1104 ≤ l3 → Q (.inl (some (jb_v 1)), σ)) ∧ (¬ (1104 ≤ l3) → jb_w d 93 0 [some (.ref 81), some (jb_v l1), none, none] [] σ (jb_k (d + 1) 92 16 [some (.ref 81), some (jb_v l1), some (jb_v l2), some (jb_v l3), some (jb_v l4), some (.ref 0), some (jb_v l6), some (jb_v l7), none] [] Q))) :
    jb_w (d + 1) 92 7 [some (.ref 81), some (jb_v l1), some (jb_v l2), some (jb_v l3), some (jb_v l4), some (.ref 0), some (jb_v l6), some (jb_v l7), none] [] σ Q := by
  refine jiL3 (p := 8) rfl jM92 jq92_7 ?_
  refine jw_sipush (p := 11) rfl jM92 jq92_8 (by decide) ?_
  refine jw_ic (p := 14) rfl jM92 jq92_11 (jc_ge hl3 (jb_rn rfl)) (fun c1 => ?_) (fun c1 => ?_)
  · have h1 := h.1 c1
    refine jw_iconst (p := 242) rfl jM92 jq92_241 ?_
    exact jw_iret jM92 jq92_242 (fun _ => Or.inr rfl) h1
  · have h1 := h.2 c1
    refine jaL0 (p := 15) rfl jM92 jq92_14 ?_
    refine jiL1 (p := 16) rfl jM92 jq92_15 ?_
    refine jw_callV [(jb_v l1)] jM92 jq92_16 rfl rfl (jo_81 hF) rfl jM93 rfl rfl ?_
    exact h1
theorem jk92_83_3 {d : Nat} {σ : ib_H} {Q : ib_O → Prop} {l1 : Int} {l2 : Int} {l3 : Int} {l4 : Int} {l6 : Int} {l7 : Int} {s0 : Int} (hF : jb_F σ) (hl1 : jb_r l1) (hl2 : jb_r l2) (hl3 : jb_r l3) (hl4 : jb_r l4) (hl6 : jb_r l6) (hl7 : jb_r l7) (hs0 : jb_r s0)
    (h : (¬ s0 = 0 → jb_w d 92 7 [some (.ref 81), some (jb_v l1), some (jb_v l2), some (jb_v (l3 + 1)), some (jb_v l4), some (.ref 0), some (jb_v l6), some (jb_v l7), none] [] σ Q) ∧ (¬ (¬ s0 = 0) → Q (.inl (some (jb_v 0)), σ))) :
    jb_w d 92 83 [some (.ref 81), some (jb_v l1), some (jb_v l2), some (jb_v l3), some (jb_v l4), some (.ref 0), some (jb_v l6), some (jb_v l7), none] [(jb_v s0)] σ Q := by
  refine jw_if (p := 86) rfl jM92 jq92_83 (jc_ne hs0 jb_r0) (fun c1 => ?_) (fun c1 => ?_)
  · have h1 := h.1 c1
    refine jiI3 (p := 238) rfl jM92 jq92_235 ?_
    refine jw_goto jM92 jq92_238 ?_
    exact h1
  · have h1 := h.2 c1
    refine jw_iconst (p := 87) rfl jM92 jq92_86 ?_
    exact jw_iret jM92 jq92_87 (fun _ => Or.inl rfl) h1
theorem jk92_54_4 {d : Nat} {σ : ib_H} {Q : ib_O → Prop} {l1 : Int} {l2 : Int} {l3 : Int} {l4 : Int} {l5 : Nat} {l6 : Int} {l7 : Int} {s0 : Nat} (hF : jb_F σ) (hl1 : jb_r l1) (hl2 : jb_r l2) (hl3 : jb_r l3) (hl4 : jb_r l4) (hl5 : l5 ≠ 0 → jb_rc σ l5) (hl6 : jb_r l6) (hl7 : jb_r l7) (hs0 : s0 ≠ 0 → jb_rc σ s0)
    (h : (¬ s0 = 0 → jb_w d 94 0 [some (.ref 81), some (.ref s0), none] [] σ (jb_k (d + 1) 92 97 [some (.ref 81), some (jb_v l1), some (jb_v l2), some (jb_v l3), some (jb_v l4), some (.ref s0), some (jb_v l6), some (jb_v l7), none] [(jb_v l4), (.ref 82)] Q)) ∧ (s0 = 0 → (0 ≤ l4 ∧ l4 < 4) ∧ ((l2 = 0 → jb_w (d + 1) 92 7 [some (.ref 81), some (jb_v l1), some (jb_v l2), some (jb_v (l3 + 1)), some (jb_v l4), some (.ref s0), some (jb_v l6), some (jb_v l7), none] [] (jb_si σ 82 l4 (-1)) Q) ∧ (¬ (l2 = 0) → jb_w d 96 0 [some (.ref 81), some (jb_v l4)] [] (jb_si σ 82 l4 (-1)) (jb_k (d + 1) 92 80 [some (.ref 81), some (jb_v l1), some (jb_v l2), some (jb_v l3), some (jb_v l4), some (.ref s0), some (jb_v l6), some (jb_v l7), none] [] Q))))) :
    jb_w (d + 1) 92 54 [some (.ref 81), some (jb_v l1), some (jb_v l2), some (jb_v l3), some (jb_v l4), some (.ref l5), some (jb_v l6), some (jb_v l7), none] [(.ref s0)] σ Q := by
  refine jw_goto jM92 jq92_54 ?_
  refine jaS5 (p := 60) rfl jM92 jq92_58 ?_
  refine jaL5 (p := 62) rfl jM92 jq92_60 ?_
  refine jw_ifnonnull (p := 65) rfl jM92 jq92_62 (fun c1 => ?_) (fun c1 => ?_)
  · have h1 := h.1 c1
    refine jaL0 (p := 89) rfl jM92 jq92_88 ?_
    refine jw_getP (p := 92) (i := 3) (q := 82) rfl jM92 jq92_89 rfl (jo_81 hF) je_8_3 (jp_81_3 hF) ?_
    refine jiL4 (p := 94) rfl jM92 jq92_92 ?_
    refine jaL0 (p := 95) rfl jM92 jq92_94 ?_
    refine jaL5 (p := 97) rfl jM92 jq92_95 ?_
    refine jw_callV [(.ref s0)] jM92 jq92_97 rfl rfl (jo_81 hF) rfl jM94 rfl rfl ?_
    exact h1
  · have h1 := h.2 c1
    refine jaL0 (p := 66) rfl jM92 jq92_65 ?_
    refine jw_getP (p := 69) (i := 3) (q := 82) rfl jM92 jq92_66 rfl (jo_81 hF) je_8_3 (jp_81_3 hF) ?_
    refine jiL4 (p := 71) rfl jM92 jq92_69 ?_
    refine jw_iconst (p := 72) rfl jM92 jq92_71 ?_
    obtain ⟨c2, h2⟩ := h1
    refine jw_iast (p := 73) rfl jM92 jq92_72 (ja_82 hF) c2.1 c2.2 ?_
    refine jiL2 (p := 74) rfl jM92 jq92_73 ?_
    refine jw_if (p := 77) rfl jM92 jq92_74 (jc_eq hl2 jb_r0) (fun c3 => ?_) (fun c3 => ?_)
    · have h3 := h2.1 c3
      refine jiI3 (p := 238) rfl jM92 jq92_235 ?_
      refine jw_goto jM92 jq92_238 ?_
      exact h3
    · have h3 := h2.2 c3
      refine jaL0 (p := 78) rfl jM92 jq92_77 ?_
      refine jiL4 (p := 80) rfl jM92 jq92_78 ?_
      refine jw_callV [(jb_v l4)] jM92 jq92_80 rfl rfl (jo_81 hF) rfl jM96 rfl rfl ?_
      exact h3
theorem jk92_207 {d : Nat} {σ : ib_H} {Q : ib_O → Prop} {l1 : Int} {l2 : Int} {l3 : Int} {l4 : Int} {l5 : Nat} {l6 : Int} {l7 : Int} {l8 : Int} {s1 : Int} {s2 : Int} (hF : jb_F σ) (hl1 : jb_r l1) (hl2 : jb_r l2) (hl3 : jb_r l3) (hl4 : jb_r l4) (hl5 : l5 ≠ 0 → jb_rc σ l5) (hl6 : jb_r l6) (hl7 : jb_r l7) (hl8 : jb_r l8) (hs1 : jb_r s1) (hs2 : jb_r s2)
    (h : jb_w d 83 0 [some (.ref 79), some (jb_v s1), some (jb_v s2), none, none, none] [] σ (jb_k (d + 1) 92 207 [some (.ref 81), some (jb_v l1), some (jb_v l2), some (jb_v l3), some (jb_v l4), some (.ref l5), some (jb_v l6), some (jb_v l7), some (jb_v l8)] [] Q)) :
    jb_w (d + 1) 92 207 [some (.ref 81), some (jb_v l1), some (jb_v l2), some (jb_v l3), some (jb_v l4), some (.ref l5), some (jb_v l6), some (jb_v l7), some (jb_v l8)] [(jb_v s2), (jb_v s1), (.ref 79)] σ Q := by
  refine jw_callV [(jb_v s1), (jb_v s2)] jM92 jq92_207 rfl rfl (jo_79 hF) rfl jM83 rfl rfl ?_
  exact h
theorem jk92_19_5 {d : Nat} {σ : ib_H} {Q : ib_O → Prop} {l1 : Int} {l2 : Int} {l3 : Int} {l4 : Int} {l6 : Int} {l7 : Int} {s0 : Int} (hF : jb_F σ) (hl1 : jb_r l1) (hl2 : jb_r l2) (hl3 : jb_r l3) (hl4 : jb_r l4) (hl6 : jb_r l6) (hl7 : jb_r l7) (hs0 : jb_r s0)
    (h : (¬ s0 = (-1) → (0 ≤ s0 ∧ s0 < 4) ∧ ((jb_i σ 82 s0 ≤ l1 → (l2 = 0 → jb_w (d + 1) 92 7 [some (.ref 81), some (jb_v l1), some (jb_v l2), some (jb_v (l3 + 1)), some (jb_v s0), some (.ref 0), some (jb_v l6), some (jb_v l7), none] [] (jb_si σ 82 s0 (-1)) Q) ∧ (¬ (l2 = 0) → jb_w d 96 0 [some (.ref 81), some (jb_v s0)] [] (jb_si σ 82 s0 (-1)) (jb_k (d + 1) 92 80 [some (.ref 81), some (jb_v l1), some (jb_v l2), some (jb_v l3), some (jb_v s0), some (.ref 0), some (jb_v l6), some (jb_v l7), none] [] Q))) ∧ (¬ (jb_i σ 82 s0 ≤ l1) → jb_w d 19 0 [some (.ref 63), some (jb_v (jb_i σ 82 s0))] [] σ (jb_k (d + 1) 92 51 [some (.ref 81), some (jb_v l1), some (jb_v l2), some (jb_v l3), some (jb_v s0), some (.ref 0), some (jb_v l6), some (jb_v l7), none] [] Q)))) ∧ (¬ (¬ s0 = (-1)) → Q (.inl (some (jb_v 1)), σ))) :
    jb_w (d + 1) 92 19 [some (.ref 81), some (jb_v l1), some (jb_v l2), some (jb_v l3), some (jb_v l4), some (.ref 0), some (jb_v l6), some (jb_v l7), none] [(jb_v s0)] σ Q := by
  refine jiS4 (p := 21) rfl jM92 jq92_19 ?_
  refine jiL4 (p := 23) rfl jM92 jq92_21 ?_
  refine jw_iconst (p := 24) rfl jM92 jq92_23 ?_
  refine jw_ic (p := 27) rfl jM92 jq92_24 (jc_ne hs0 (jb_rn rfl)) (fun c1 => ?_) (fun c1 => ?_)
  · have h1 := h.1 c1
    refine jaL0 (p := 30) rfl jM92 jq92_29 ?_
    refine jw_getP (p := 33) (i := 3) (q := 82) rfl jM92 jq92_30 rfl (jo_81 hF) je_8_3 (jp_81_3 hF) ?_
    refine jiL4 (p := 35) rfl jM92 jq92_33 ?_
    obtain ⟨c2, h2⟩ := h1
    refine jw_iald (p := 36) rfl jM92 jq92_35 (ja_82 hF) c2.1 c2.2 ?_
    refine jiL1 (p := 37) rfl jM92 jq92_36 ?_
    refine jw_ic (p := 40) rfl jM92 jq92_37 (jc_le (jb_r_i _ _ _) hl1) (fun c3 => ?_) (fun c3 => ?_)
    · have h3 := h2.1 c3
      refine jw_null (p := 58) rfl jM92 jq92_57 ?_
      refine jaS5 (p := 60) rfl jM92 jq92_58 ?_
      refine jaL5 (p := 62) rfl jM92 jq92_60 ?_
      refine jw_ifnonnull (p := 65) rfl jM92 jq92_62 (fun z => absurd rfl z) (fun _ => ?_)
      refine jaL0 (p := 66) rfl jM92 jq92_65 ?_
      refine jw_getP (p := 69) (i := 3) (q := 82) rfl jM92 jq92_66 rfl (jo_81 hF) je_8_3 (jp_81_3 hF) ?_
      refine jiL4 (p := 71) rfl jM92 jq92_69 ?_
      refine jw_iconst (p := 72) rfl jM92 jq92_71 ?_
      refine jw_iast (p := 73) rfl jM92 jq92_72 (ja_82 hF) c2.1 c2.2 ?_
      refine jiL2 (p := 74) rfl jM92 jq92_73 ?_
      refine jw_if (p := 77) rfl jM92 jq92_74 (jc_eq hl2 jb_r0) (fun c4 => ?_) (fun c4 => ?_)
      · have h4 := h3.1 c4
        refine jiI3 (p := 238) rfl jM92 jq92_235 ?_
        refine jw_goto jM92 jq92_238 ?_
        exact h4
      · have h4 := h3.2 c4
        refine jaL0 (p := 78) rfl jM92 jq92_77 ?_
        refine jiL4 (p := 80) rfl jM92 jq92_78 ?_
        refine jw_callV [(jb_v s0)] jM92 jq92_80 rfl rfl (jo_81 hF) rfl jM96 rfl rfl ?_
        exact h4
    · have h3 := h2.2 c3
      refine jaL0 (p := 41) rfl jM92 jq92_40 ?_
      refine jw_getP (p := 44) (i := 1) (q := 63) rfl jM92 jq92_41 rfl (jo_81 hF) je_8_1 (jp_81_1 hF) ?_
      refine jaL0 (p := 45) rfl jM92 jq92_44 ?_
      refine jw_getP (p := 48) (i := 3) (q := 82) rfl jM92 jq92_45 rfl (jo_81 hF) je_8_3 (jp_81_3 hF) ?_
      refine jiL4 (p := 50) rfl jM92 jq92_48 ?_
      refine jw_iald (p := 51) rfl jM92 jq92_50 (ja_82 hF) c2.1 c2.2 ?_
      refine jw_callV [(jb_v (jb_i σ 82 s0))] jM92 jq92_51 rfl rfl (jo_63 hF) rfl jM19 rfl rfl ?_
      exact h3
  · have h1 := h.2 c1
    refine jw_iconst (p := 28) rfl jM92 jq92_27 ?_
    exact jw_iret jM92 jq92_28 (fun _ => Or.inr rfl) h1
theorem jk92_100_2 {d : Nat} {σ : ib_H} {Q : ib_O → Prop} {l1 : Int} {l2 : Int} {l3 : Int} {l4 : Int} {l5 : Nat} {l6 : Int} {l7 : Int} {s1 : Int} {s2 : Int} (hF : jb_F σ) (hl1 : jb_r l1) (hl2 : jb_r l2) (hl3 : jb_r l3) (hl4 : jb_r l4) (hl5 : l5 ≠ 0 → jb_rc σ l5) (hl6 : jb_r l6) (hl7 : jb_r l7) (hs1 : jb_r s1) (hs2 : jb_r s2)
    (h : (0 ≤ s1 ∧ s1 < 4) ∧ ((l5 ≠ 0) ∧ ((jb_i (jb_si σ 82 s1 s2) l5 1 = 0 → jb_w d 71 0 [some (.ref 79), some (jb_v (jb_i (jb_si σ 82 s1 s2) l5 3)), none, none, none] [] (jb_si σ 82 s1 s2) (jb_k (d + 1) 92 121 [some (.ref 81), some (jb_v l1), some (jb_v l2), some (jb_v l3), some (jb_v l4), some (.ref l5), some (jb_v l6), some (jb_v l7), none] [] Q)) ∧ (¬ (jb_i (jb_si σ 82 s1 s2) l5 1 = 0) → jb_w (d + 1) 92 7 [some (.ref 81), some (jb_v l1), some (jb_v l2), some (jb_v (l3 + 1)), some (jb_v l4), some (.ref l5), some (jb_v l6), some (jb_v l7), none] [] (jb_si σ 82 s1 s2) Q)))) :
    jb_w (d + 1) 92 100 [some (.ref 81), some (jb_v l1), some (jb_v l2), some (jb_v l3), some (jb_v l4), some (.ref l5), some (jb_v l6), some (jb_v l7), none] [(jb_v s2), (jb_v s1), (.ref 82)] σ Q := by
  obtain ⟨c1, h1⟩ := h
  refine jw_iast (p := 101) rfl jM92 jq92_100 (ja_82 hF) c1.1 c1.2 ?_
  refine jaL5 (p := 103) rfl jM92 jq92_101 ?_
  obtain ⟨c2, h2⟩ := h1
  refine jw_getI (p := 106) (i := 1) rfl jM92 jq92_103 rfl (hl5 c2).ob jn_3_1 ?_
  refine jw_if (p := 109) rfl jM92 jq92_106 (jc_eq (jb_r_i _ _ _) jb_r0) (fun c3 => ?_) (fun c3 => ?_)
  · have h3 := h2.1 c3
    refine jaL0 (p := 113) rfl jM92 jq92_112 ?_
    refine jw_getP (p := 116) (i := 0) (q := 79) rfl jM92 jq92_113 rfl (jo_81 hF) je_8_0 (jp_81_0 hF) ?_
    refine jaL5 (p := 118) rfl jM92 jq92_116 ?_
    refine jw_getI (p := 121) (i := 3) rfl jM92 jq92_118 rfl (hl5 c2).ob jn_3_3 ?_
    refine jw_callV [(jb_v (jb_i (jb_si σ 82 s1 s2) l5 3))] jM92 jq92_121 rfl rfl (jo_79 hF) rfl jM71 rfl rfl ?_
    exact h3
  · have h3 := h2.2 c3
    refine jw_goto jM92 jq92_109 ?_
    refine jiI3 (p := 238) rfl jM92 jq92_235 ?_
    refine jw_goto jM92 jq92_238 ?_
    exact h3
theorem jk92_83_4 {d : Nat} {σ : ib_H} {Q : ib_O → Prop} {l1 : Int} {l2 : Int} {l3 : Int} {l4 : Int} {l5 : Nat} {l6 : Int} {l7 : Int} {s0 : Int} (hF : jb_F σ) (hl1 : jb_r l1) (hl2 : jb_r l2) (hl3 : jb_r l3) (hl4 : jb_r l4) (hl5 : l5 ≠ 0 → jb_rc σ l5) (hl6 : jb_r l6) (hl7 : jb_r l7) (hs0 : jb_r s0)
    (h : (¬ s0 = 0 → jb_w d 92 7 [some (.ref 81), some (jb_v l1), some (jb_v l2), some (jb_v (l3 + 1)), some (jb_v l4), some (.ref l5), some (jb_v l6), some (jb_v l7), none] [] σ Q) ∧ (¬ (¬ s0 = 0) → Q (.inl (some (jb_v 0)), σ))) :
    jb_w d 92 83 [some (.ref 81), some (jb_v l1), some (jb_v l2), some (jb_v l3), some (jb_v l4), some (.ref l5), some (jb_v l6), some (jb_v l7), none] [(jb_v s0)] σ Q := by
  refine jw_if (p := 86) rfl jM92 jq92_83 (jc_ne hs0 jb_r0) (fun c1 => ?_) (fun c1 => ?_)
  · have h1 := h.1 c1
    refine jiI3 (p := 238) rfl jM92 jq92_235 ?_
    refine jw_goto jM92 jq92_238 ?_
    exact h1
  · have h1 := h.2 c1
    refine jw_iconst (p := 87) rfl jM92 jq92_86 ?_
    exact jw_iret jM92 jq92_87 (fun _ => Or.inl rfl) h1
theorem jk92_210 {d : Nat} {σ : ib_H} {Q : ib_O → Prop} {l1 : Int} {l2 : Int} {l3 : Int} {l4 : Int} {l5 : Nat} {l6 : Int} {l7 : Int} {l8 : Int} {s0 : Int} (hF : jb_F σ) (hl1 : jb_r l1) (hl2 : jb_r l2) (hl3 : jb_r l3) (hl4 : jb_r l4) (hl5 : l5 ≠ 0 → jb_rc σ l5) (hl6 : jb_r l6) (hl7 : jb_r l7) (hl8 : jb_r l8) (hs0 : jb_r s0)
    (h : jb_w d 92 163 [some (.ref 81), some (jb_v l1), some (jb_v l2), some (jb_v l3), some (jb_v l4), some (.ref l5), some (jb_v s0), some (jb_v (l7 + 1)), some (jb_v l8)] [] σ Q) :
    jb_w d 92 210 [some (.ref 81), some (jb_v l1), some (jb_v l2), some (jb_v l3), some (jb_v l4), some (.ref l5), some (jb_v l6), some (jb_v l7), some (jb_v l8)] [(jb_v s0)] σ Q := by
  refine jiS6 (p := 212) rfl jM92 jq92_210 ?_
  refine jiI7 (p := 215) rfl jM92 jq92_212 ?_
  refine jw_goto jM92 jq92_215 ?_
  exact h
theorem jk92_54_5 {d : Nat} {σ : ib_H} {Q : ib_O → Prop} {l1 : Int} {l2 : Int} {l3 : Int} {l4 : Int} {l6 : Int} {l7 : Int} {s0 : Nat} (hF : jb_F σ) (hl1 : jb_r l1) (hl2 : jb_r l2) (hl3 : jb_r l3) (hl4 : jb_r l4) (hl6 : jb_r l6) (hl7 : jb_r l7) (hs0 : s0 ≠ 0 → jb_rc σ s0)
    (h : (¬ s0 = 0 → jb_w d 94 0 [some (.ref 81), some (.ref s0), none] [] σ (jb_k (d + 1) 92 97 [some (.ref 81), some (jb_v l1), some (jb_v l2), some (jb_v l3), some (jb_v l4), some (.ref s0), some (jb_v l6), some (jb_v l7), none] [(jb_v l4), (.ref 82)] Q)) ∧ (s0 = 0 → (0 ≤ l4 ∧ l4 < 4) ∧ ((l2 = 0 → jb_w (d + 1) 92 7 [some (.ref 81), some (jb_v l1), some (jb_v l2), some (jb_v (l3 + 1)), some (jb_v l4), some (.ref s0), some (jb_v l6), some (jb_v l7), none] [] (jb_si σ 82 l4 (-1)) Q) ∧ (¬ (l2 = 0) → jb_w d 96 0 [some (.ref 81), some (jb_v l4)] [] (jb_si σ 82 l4 (-1)) (jb_k (d + 1) 92 80 [some (.ref 81), some (jb_v l1), some (jb_v l2), some (jb_v l3), some (jb_v l4), some (.ref s0), some (jb_v l6), some (jb_v l7), none] [] Q))))) :
    jb_w (d + 1) 92 54 [some (.ref 81), some (jb_v l1), some (jb_v l2), some (jb_v l3), some (jb_v l4), some (.ref 0), some (jb_v l6), some (jb_v l7), none] [(.ref s0)] σ Q := by
  refine jw_goto jM92 jq92_54 ?_
  refine jaS5 (p := 60) rfl jM92 jq92_58 ?_
  refine jaL5 (p := 62) rfl jM92 jq92_60 ?_
  refine jw_ifnonnull (p := 65) rfl jM92 jq92_62 (fun c1 => ?_) (fun c1 => ?_)
  · have h1 := h.1 c1
    refine jaL0 (p := 89) rfl jM92 jq92_88 ?_
    refine jw_getP (p := 92) (i := 3) (q := 82) rfl jM92 jq92_89 rfl (jo_81 hF) je_8_3 (jp_81_3 hF) ?_
    refine jiL4 (p := 94) rfl jM92 jq92_92 ?_
    refine jaL0 (p := 95) rfl jM92 jq92_94 ?_
    refine jaL5 (p := 97) rfl jM92 jq92_95 ?_
    refine jw_callV [(.ref s0)] jM92 jq92_97 rfl rfl (jo_81 hF) rfl jM94 rfl rfl ?_
    exact h1
  · have h1 := h.2 c1
    refine jaL0 (p := 66) rfl jM92 jq92_65 ?_
    refine jw_getP (p := 69) (i := 3) (q := 82) rfl jM92 jq92_66 rfl (jo_81 hF) je_8_3 (jp_81_3 hF) ?_
    refine jiL4 (p := 71) rfl jM92 jq92_69 ?_
    refine jw_iconst (p := 72) rfl jM92 jq92_71 ?_
    obtain ⟨c2, h2⟩ := h1
    refine jw_iast (p := 73) rfl jM92 jq92_72 (ja_82 hF) c2.1 c2.2 ?_
    refine jiL2 (p := 74) rfl jM92 jq92_73 ?_
    refine jw_if (p := 77) rfl jM92 jq92_74 (jc_eq hl2 jb_r0) (fun c3 => ?_) (fun c3 => ?_)
    · have h3 := h2.1 c3
      refine jiI3 (p := 238) rfl jM92 jq92_235 ?_
      refine jw_goto jM92 jq92_238 ?_
      exact h3
    · have h3 := h2.2 c3
      refine jaL0 (p := 78) rfl jM92 jq92_77 ?_
      refine jiL4 (p := 80) rfl jM92 jq92_78 ?_
      refine jw_callV [(jb_v l4)] jM92 jq92_80 rfl rfl (jo_81 hF) rfl jM96 rfl rfl ?_
      exact h3
theorem jk92_124_2 {d : Nat} {σ : ib_H} {Q : ib_O → Prop} {l1 : Int} {l2 : Int} {l3 : Int} {l4 : Int} {l5 : Nat} {l6 : Int} {l7 : Int} {s0 : Int} (hF : jb_F σ) (hl1 : jb_r l1) (hl2 : jb_r l2) (hl3 : jb_r l3) (hl4 : jb_r l4) (hl5 : l5 ≠ 0 → jb_rc σ l5) (hl6 : jb_r l6) (hl7 : jb_r l7) (hs0 : jb_r s0)
    (h : (s0 = 0 → jb_w (d + 1) 92 163 [some (.ref 81), some (jb_v l1), some (jb_v l2), some (jb_v l3), some (jb_v l4), some (.ref l5), some (jb_v 0), some (jb_v 0), none] [] σ Q) ∧ (¬ (s0 = 0) → jb_w d 95 0 [some (.ref 81), some (.ref l5), none] [] σ (jb_k (d + 1) 92 130 [some (.ref 81), some (jb_v l1), some (jb_v l2), some (jb_v l3), some (jb_v l4), some (.ref l5), some (jb_v l6), some (jb_v l7), none] [] Q))) :
    jb_w (d + 1) 92 124 [some (.ref 81), some (jb_v l1), some (jb_v l2), some (jb_v l3), some (jb_v l4), some (.ref l5), some (jb_v l6), some (jb_v l7), none] [(jb_v s0)] σ Q := by
  refine jw_if (p := 127) rfl jM92 jq92_124 (jc_eq hs0 jb_r0) (fun c1 => ?_) (fun c1 => ?_)
  · have h1 := h.1 c1
    refine jw_iconst (p := 158) rfl jM92 jq92_157 ?_
    refine jiS6 (p := 160) rfl jM92 jq92_158 ?_
    refine jw_iconst (p := 161) rfl jM92 jq92_160 ?_
    refine jiS7 (p := 163) rfl jM92 jq92_161 ?_
    exact h1
  · have h1 := h.2 c1
    refine jaL0 (p := 128) rfl jM92 jq92_127 ?_
    refine jaL5 (p := 130) rfl jM92 jq92_128 ?_
    refine jw_callV [(.ref l5)] jM92 jq92_130 rfl rfl (jo_81 hF) rfl jM95 rfl rfl ?_
    exact h1
theorem jk92_163_2 {d : Nat} {σ : ib_H} {Q : ib_O → Prop} {l1 : Int} {l2 : Int} {l3 : Int} {l4 : Int} {l5 : Nat} {l6 : Int} {l7 : Int} {l8 : Int} (hF : jb_F σ) (hl1 : jb_r l1) (hl2 : jb_r l2) (hl3 : jb_r l3) (hl4 : jb_r l4) (hl5 : l5 ≠ 0 → jb_rc σ l5) (hl6 : jb_r l6) (hl7 : jb_r l7) (hl8 : jb_r l8)
    (h : (24 ≤ l7 → (¬ l6 = 0 → jb_w (d + 1) 92 7 [some (.ref 81), some (jb_v l1), some (jb_v l2), some (jb_v (l3 + 1)), some (jb_v l4), some (.ref l5), some (jb_v l6), some (jb_v l7), some (jb_v l8)] [] (jb_si σ 81 4 ((jb_i σ 81 4) + 1)) Q) ∧ (¬ (¬ l6 = 0) → Q (.inl (some (jb_v 0)), σ))) ∧ (¬ (24 ≤ l7) → (l6 = 0 → (¬ l6 = 0 → jb_w (d + 1) 92 7 [some (.ref 81), some (jb_v l1), some (jb_v l2), some (jb_v (l3 + 1)), some (jb_v l4), some (.ref l5), some (jb_v l6), some (jb_v l7), some (jb_v l8)] [] (jb_si σ 81 4 ((jb_i σ 81 4) + 1)) Q) ∧ (¬ (¬ l6 = 0) → Q (.inl (some (jb_v 0)), σ))) ∧ (¬ (l6 = 0) → jb_w d 81 0 [some (.ref 79), none] [] σ (jb_k (d + 1) 92 179 [some (.ref 81), some (jb_v l1), some (jb_v l2), some (jb_v l3), some (jb_v l4), some (.ref l5), some (jb_v l6), some (jb_v l7), some (jb_v l8)] [] Q)))) :
    jb_w (d + 1) 92 163 [some (.ref 81), some (jb_v l1), some (jb_v l2), some (jb_v l3), some (jb_v l4), some (.ref l5), some (jb_v l6), some (jb_v l7), some (jb_v l8)] [] σ Q := by
  refine jiL7 (p := 165) rfl jM92 jq92_163 ?_
  refine jw_bipush (p := 167) rfl jM92 jq92_165 (by decide) ?_
  refine jw_ic (p := 170) rfl jM92 jq92_167 (jc_ge hl7 (jb_rn rfl)) (fun c1 => ?_) (fun c1 => ?_)
  · have h1 := h.1 c1
    refine jiL6 (p := 220) rfl jM92 jq92_218 ?_
    refine jw_if (p := 223) rfl jM92 jq92_220 (jc_ne hl6 jb_r0) (fun c2 => ?_) (fun c2 => ?_)
    · have h2 := h1.1 c2
      refine jaL0 (p := 226) rfl jM92 jq92_225 ?_
      refine jw_dupA (p := 227) rfl jM92 jq92_226 ?_
      refine jw_getI (p := 230) (i := 4) rfl jM92 jq92_227 rfl (jo_81 hF) jn_8_4 ?_
      refine jw_iconst (p := 231) rfl jM92 jq92_230 ?_
      refine jw_iadd (p := 232) rfl jM92 jq92_231 ?_
      refine jw_putI (p := 235) (i := 4) rfl jM92 jq92_232 rfl (jo_81 hF) (Or.inl jz_8_4) ?_
      refine jiI3 (p := 238) rfl jM92 jq92_235 ?_
      refine jw_goto jM92 jq92_238 ?_
      exact h2
    · have h2 := h1.2 c2
      refine jw_iconst (p := 224) rfl jM92 jq92_223 ?_
      exact jw_iret jM92 jq92_224 (fun _ => Or.inl rfl) h2
  · have h1 := h.2 c1
    refine jiL6 (p := 172) rfl jM92 jq92_170 ?_
    refine jw_if (p := 175) rfl jM92 jq92_172 (jc_eq hl6 jb_r0) (fun c3 => ?_) (fun c3 => ?_)
    · have h3 := h1.1 c3
      refine jiL6 (p := 220) rfl jM92 jq92_218 ?_
      refine jw_if (p := 223) rfl jM92 jq92_220 (jc_ne hl6 jb_r0) (fun c4 => ?_) (fun c4 => ?_)
      · have h4 := h3.1 c4
        refine jaL0 (p := 226) rfl jM92 jq92_225 ?_
        refine jw_dupA (p := 227) rfl jM92 jq92_226 ?_
        refine jw_getI (p := 230) (i := 4) rfl jM92 jq92_227 rfl (jo_81 hF) jn_8_4 ?_
        refine jw_iconst (p := 231) rfl jM92 jq92_230 ?_
        refine jw_iadd (p := 232) rfl jM92 jq92_231 ?_
        refine jw_putI (p := 235) (i := 4) rfl jM92 jq92_232 rfl (jo_81 hF) (Or.inl jz_8_4) ?_
        refine jiI3 (p := 238) rfl jM92 jq92_235 ?_
        refine jw_goto jM92 jq92_238 ?_
        exact h4
      · have h4 := h3.2 c4
        refine jw_iconst (p := 224) rfl jM92 jq92_223 ?_
        exact jw_iret jM92 jq92_224 (fun _ => Or.inl rfl) h4
    · have h3 := h1.2 c3
      refine jaL0 (p := 176) rfl jM92 jq92_175 ?_
      refine jw_getP (p := 179) (i := 0) (q := 79) rfl jM92 jq92_176 rfl (jo_81 hF) je_8_0 (jp_81_0 hF) ?_
      refine jw_callV [] jM92 jq92_179 rfl rfl (jo_79 hF) rfl jM81 rfl rfl ?_
      exact h3
theorem jk92_133_2 {d : Nat} {σ : ib_H} {Q : ib_O → Prop} {l1 : Int} {l2 : Int} {l3 : Int} {l4 : Int} {l5 : Nat} {l6 : Int} {l7 : Int} {s0 : Int} (hF : jb_F σ) (hl1 : jb_r l1) (hl2 : jb_r l2) (hl3 : jb_r l3) (hl4 : jb_r l4) (hl5 : l5 ≠ 0 → jb_rc σ l5) (hl6 : jb_r l6) (hl7 : jb_r l7) (hs0 : jb_r s0)
    (h : (s0 = 0 → jb_w (d + 1) 92 163 [some (.ref 81), some (jb_v l1), some (jb_v l2), some (jb_v l3), some (jb_v l4), some (.ref l5), some (jb_v 0), some (jb_v 0), none] [] σ Q) ∧ (¬ (s0 = 0) → jb_w d 80 0 [some (.ref 79), some (jb_v (jb_i σ 63 4)), none, none, none, none] [] σ (jb_k (d + 1) 92 147 [some (.ref 81), some (jb_v l1), some (jb_v l2), some (jb_v l3), some (jb_v l4), some (.ref l5), some (jb_v l6), some (jb_v l7), none] [] Q))) :
    jb_w (d + 1) 92 133 [some (.ref 81), some (jb_v l1), some (jb_v l2), some (jb_v l3), some (jb_v l4), some (.ref l5), some (jb_v l6), some (jb_v l7), none] [(jb_v s0)] σ Q := by
  refine jw_if (p := 136) rfl jM92 jq92_133 (jc_eq hs0 jb_r0) (fun c1 => ?_) (fun c1 => ?_)
  · have h1 := h.1 c1
    refine jw_iconst (p := 158) rfl jM92 jq92_157 ?_
    refine jiS6 (p := 160) rfl jM92 jq92_158 ?_
    refine jw_iconst (p := 161) rfl jM92 jq92_160 ?_
    refine jiS7 (p := 163) rfl jM92 jq92_161 ?_
    exact h1
  · have h1 := h.2 c1
    refine jaL0 (p := 137) rfl jM92 jq92_136 ?_
    refine jw_getP (p := 140) (i := 0) (q := 79) rfl jM92 jq92_137 rfl (jo_81 hF) je_8_0 (jp_81_0 hF) ?_
    refine jaL0 (p := 141) rfl jM92 jq92_140 ?_
    refine jw_getP (p := 144) (i := 1) (q := 63) rfl jM92 jq92_141 rfl (jo_81 hF) je_8_1 (jp_81_1 hF) ?_
    refine jw_getI (p := 147) (i := 4) rfl jM92 jq92_144 rfl (jo_63 hF) jn_2_4 ?_
    refine jw_callV [(jb_v (jb_i σ 63 4))] jM92 jq92_147 rfl rfl (jo_79 hF) rfl jM80 rfl rfl ?_
    exact h1
theorem jk92_7_6 {d : Nat} {σ : ib_H} {Q : ib_O → Prop} {l1 : Int} {l2 : Int} {l3 : Int} {l4 : Int} {l5 : Nat} {l6 : Int} {l7 : Int} {l8 : Int} (hF : jb_F σ) (hl1 : jb_r l1) (hl2 : jb_r l2) (hl3 : jb_r l3) (hl4 : jb_r l4) (hl5 : l5 ≠ 0 → jb_rc σ l5) (hl6 : jb_r l6) (hl7 : jb_r l7) (hl8 : jb_r l8)
    (h : (1104 ≤ l3 → Q (.inl (some (jb_v 1)), σ)) ∧ (¬ (1104 ≤ l3) → jb_w d 93 0 [some (.ref 81), some (jb_v l1), none, none] [] σ (jb_k (d + 1) 92 16 [some (.ref 81), some (jb_v l1), some (jb_v l2), some (jb_v l3), some (jb_v l4), some (.ref l5), some (jb_v l6), some (jb_v l7), some (jb_v l8)] [] Q))) :
    jb_w (d + 1) 92 7 [some (.ref 81), some (jb_v l1), some (jb_v l2), some (jb_v l3), some (jb_v l4), some (.ref l5), some (jb_v l6), some (jb_v l7), some (jb_v l8)] [] σ Q := by
  refine jiL3 (p := 8) rfl jM92 jq92_7 ?_
  refine jw_sipush (p := 11) rfl jM92 jq92_8 (by decide) ?_
  refine jw_ic (p := 14) rfl jM92 jq92_11 (jc_ge hl3 (jb_rn rfl)) (fun c1 => ?_) (fun c1 => ?_)
  · have h1 := h.1 c1
    refine jw_iconst (p := 242) rfl jM92 jq92_241 ?_
    exact jw_iret jM92 jq92_242 (fun _ => Or.inr rfl) h1
  · have h1 := h.2 c1
    refine jaL0 (p := 15) rfl jM92 jq92_14 ?_
    refine jiL1 (p := 16) rfl jM92 jq92_15 ?_
    refine jw_callV [(jb_v l1)] jM92 jq92_16 rfl rfl (jo_81 hF) rfl jM93 rfl rfl ?_
    exact h1
theorem jk92_182_2 {d : Nat} {σ : ib_H} {Q : ib_O → Prop} {l1 : Int} {l2 : Int} {l3 : Int} {l4 : Int} {l5 : Nat} {l6 : Int} {l7 : Int} {l8 : Int} {s0 : Int} (hF : jb_F σ) (hl1 : jb_r l1) (hl2 : jb_r l2) (hl3 : jb_r l3) (hl4 : jb_r l4) (hl5 : l5 ≠ 0 → jb_rc σ l5) (hl6 : jb_r l6) (hl7 : jb_r l7) (hl8 : jb_r l8) (hs0 : jb_r s0)
    (h : (s0 = 0 → (¬ l6 = 0 → jb_w (d + 1) 92 7 [some (.ref 81), some (jb_v l1), some (jb_v l2), some (jb_v (l3 + 1)), some (jb_v l4), some (.ref l5), some (jb_v l6), some (jb_v l7), some (jb_v l8)] [] (jb_si σ 81 4 ((jb_i σ 81 4) + 1)) Q) ∧ (¬ (¬ l6 = 0) → Q (.inl (some (jb_v 0)), σ))) ∧ (¬ (s0 = 0) → jb_w d 70 0 [some (.ref 79)] [] σ (jb_k (d + 1) 92 189 [some (.ref 81), some (jb_v l1), some (jb_v l2), some (jb_v l3), some (jb_v l4), some (.ref l5), some (jb_v l6), some (jb_v l7), some (jb_v l8)] [] Q))) :
    jb_w (d + 1) 92 182 [some (.ref 81), some (jb_v l1), some (jb_v l2), some (jb_v l3), some (jb_v l4), some (.ref l5), some (jb_v l6), some (jb_v l7), some (jb_v l8)] [(jb_v s0)] σ Q := by
  refine jw_if (p := 185) rfl jM92 jq92_182 (jc_eq hs0 jb_r0) (fun c1 => ?_) (fun c1 => ?_)
  · have h1 := h.1 c1
    refine jiL6 (p := 220) rfl jM92 jq92_218 ?_
    refine jw_if (p := 223) rfl jM92 jq92_220 (jc_ne hl6 jb_r0) (fun c2 => ?_) (fun c2 => ?_)
    · have h2 := h1.1 c2
      refine jaL0 (p := 226) rfl jM92 jq92_225 ?_
      refine jw_dupA (p := 227) rfl jM92 jq92_226 ?_
      refine jw_getI (p := 230) (i := 4) rfl jM92 jq92_227 rfl (jo_81 hF) jn_8_4 ?_
      refine jw_iconst (p := 231) rfl jM92 jq92_230 ?_
      refine jw_iadd (p := 232) rfl jM92 jq92_231 ?_
      refine jw_putI (p := 235) (i := 4) rfl jM92 jq92_232 rfl (jo_81 hF) (Or.inl jz_8_4) ?_
      refine jiI3 (p := 238) rfl jM92 jq92_235 ?_
      refine jw_goto jM92 jq92_238 ?_
      exact h2
    · have h2 := h1.2 c2
      refine jw_iconst (p := 224) rfl jM92 jq92_223 ?_
      exact jw_iret jM92 jq92_224 (fun _ => Or.inl rfl) h2
  · have h1 := h.2 c1
    refine jaL0 (p := 186) rfl jM92 jq92_185 ?_
    refine jw_getP (p := 189) (i := 0) (q := 79) rfl jM92 jq92_186 rfl (jo_81 hF) je_8_0 (jp_81_0 hF) ?_
    refine jw_callV [] jM92 jq92_189 rfl rfl (jo_79 hF) rfl jM70 rfl rfl ?_
    exact h1
theorem jk92_150_2 {d : Nat} {σ : ib_H} {Q : ib_O → Prop} {l1 : Int} {l2 : Int} {l3 : Int} {l4 : Int} {l5 : Nat} {l6 : Int} {l7 : Int} {s0 : Int} (hF : jb_F σ) (hl1 : jb_r l1) (hl2 : jb_r l2) (hl3 : jb_r l3) (hl4 : jb_r l4) (hl5 : l5 ≠ 0 → jb_rc σ l5) (hl6 : jb_r l6) (hl7 : jb_r l7) (hs0 : jb_r s0)
    (h : (s0 = 0 → jb_w d 92 163 [some (.ref 81), some (jb_v l1), some (jb_v l2), some (jb_v l3), some (jb_v l4), some (.ref l5), some (jb_v 0), some (jb_v 0), none] [] σ Q) ∧ (¬ (s0 = 0) → jb_w d 92 163 [some (.ref 81), some (jb_v l1), some (jb_v l2), some (jb_v l3), some (jb_v l4), some (.ref l5), some (jb_v 1), some (jb_v 0), none] [] σ Q)) :
    jb_w d 92 150 [some (.ref 81), some (jb_v l1), some (jb_v l2), some (jb_v l3), some (jb_v l4), some (.ref l5), some (jb_v l6), some (jb_v l7), none] [(jb_v s0)] σ Q := by
  refine jw_if (p := 153) rfl jM92 jq92_150 (jc_eq hs0 jb_r0) (fun c1 => ?_) (fun c1 => ?_)
  · have h1 := h.1 c1
    refine jw_iconst (p := 158) rfl jM92 jq92_157 ?_
    refine jiS6 (p := 160) rfl jM92 jq92_158 ?_
    refine jw_iconst (p := 161) rfl jM92 jq92_160 ?_
    refine jiS7 (p := 163) rfl jM92 jq92_161 ?_
    exact h1
  · have h1 := h.2 c1
    refine jw_iconst (p := 154) rfl jM92 jq92_153 ?_
    refine jw_goto jM92 jq92_154 ?_
    refine jiS6 (p := 160) rfl jM92 jq92_158 ?_
    refine jw_iconst (p := 161) rfl jM92 jq92_160 ?_
    refine jiS7 (p := 163) rfl jM92 jq92_161 ?_
    exact h1
theorem jk92_19_6 {d : Nat} {σ : ib_H} {Q : ib_O → Prop} {l1 : Int} {l2 : Int} {l3 : Int} {l4 : Int} {l5 : Nat} {l6 : Int} {l7 : Int} {l8 : Int} {s0 : Int} (hF : jb_F σ) (hl1 : jb_r l1) (hl2 : jb_r l2) (hl3 : jb_r l3) (hl4 : jb_r l4) (hl5 : l5 ≠ 0 → jb_rc σ l5) (hl6 : jb_r l6) (hl7 : jb_r l7) (hl8 : jb_r l8) (hs0 : jb_r s0)
    (h : (¬ s0 = (-1) → (0 ≤ s0 ∧ s0 < 4) ∧ ((jb_i σ 82 s0 ≤ l1 → (l2 = 0 → jb_w (d + 1) 92 7 [some (.ref 81), some (jb_v l1), some (jb_v l2), some (jb_v (l3 + 1)), some (jb_v s0), some (.ref 0), some (jb_v l6), some (jb_v l7), some (jb_v l8)] [] (jb_si σ 82 s0 (-1)) Q) ∧ (¬ (l2 = 0) → jb_w d 96 0 [some (.ref 81), some (jb_v s0)] [] (jb_si σ 82 s0 (-1)) (jb_k (d + 1) 92 80 [some (.ref 81), some (jb_v l1), some (jb_v l2), some (jb_v l3), some (jb_v s0), some (.ref 0), some (jb_v l6), some (jb_v l7), some (jb_v l8)] [] Q))) ∧ (¬ (jb_i σ 82 s0 ≤ l1) → jb_w d 19 0 [some (.ref 63), some (jb_v (jb_i σ 82 s0))] [] σ (jb_k (d + 1) 92 51 [some (.ref 81), some (jb_v l1), some (jb_v l2), some (jb_v l3), some (jb_v s0), some (.ref l5), some (jb_v l6), some (jb_v l7), some (jb_v l8)] [] Q)))) ∧ (¬ (¬ s0 = (-1)) → Q (.inl (some (jb_v 1)), σ))) :
    jb_w (d + 1) 92 19 [some (.ref 81), some (jb_v l1), some (jb_v l2), some (jb_v l3), some (jb_v l4), some (.ref l5), some (jb_v l6), some (jb_v l7), some (jb_v l8)] [(jb_v s0)] σ Q := by
  refine jiS4 (p := 21) rfl jM92 jq92_19 ?_
  refine jiL4 (p := 23) rfl jM92 jq92_21 ?_
  refine jw_iconst (p := 24) rfl jM92 jq92_23 ?_
  refine jw_ic (p := 27) rfl jM92 jq92_24 (jc_ne hs0 (jb_rn rfl)) (fun c1 => ?_) (fun c1 => ?_)
  · have h1 := h.1 c1
    refine jaL0 (p := 30) rfl jM92 jq92_29 ?_
    refine jw_getP (p := 33) (i := 3) (q := 82) rfl jM92 jq92_30 rfl (jo_81 hF) je_8_3 (jp_81_3 hF) ?_
    refine jiL4 (p := 35) rfl jM92 jq92_33 ?_
    obtain ⟨c2, h2⟩ := h1
    refine jw_iald (p := 36) rfl jM92 jq92_35 (ja_82 hF) c2.1 c2.2 ?_
    refine jiL1 (p := 37) rfl jM92 jq92_36 ?_
    refine jw_ic (p := 40) rfl jM92 jq92_37 (jc_le (jb_r_i _ _ _) hl1) (fun c3 => ?_) (fun c3 => ?_)
    · have h3 := h2.1 c3
      refine jw_null (p := 58) rfl jM92 jq92_57 ?_
      refine jaS5 (p := 60) rfl jM92 jq92_58 ?_
      refine jaL5 (p := 62) rfl jM92 jq92_60 ?_
      refine jw_ifnonnull (p := 65) rfl jM92 jq92_62 (fun z => absurd rfl z) (fun _ => ?_)
      refine jaL0 (p := 66) rfl jM92 jq92_65 ?_
      refine jw_getP (p := 69) (i := 3) (q := 82) rfl jM92 jq92_66 rfl (jo_81 hF) je_8_3 (jp_81_3 hF) ?_
      refine jiL4 (p := 71) rfl jM92 jq92_69 ?_
      refine jw_iconst (p := 72) rfl jM92 jq92_71 ?_
      refine jw_iast (p := 73) rfl jM92 jq92_72 (ja_82 hF) c2.1 c2.2 ?_
      refine jiL2 (p := 74) rfl jM92 jq92_73 ?_
      refine jw_if (p := 77) rfl jM92 jq92_74 (jc_eq hl2 jb_r0) (fun c4 => ?_) (fun c4 => ?_)
      · have h4 := h3.1 c4
        refine jiI3 (p := 238) rfl jM92 jq92_235 ?_
        refine jw_goto jM92 jq92_238 ?_
        exact h4
      · have h4 := h3.2 c4
        refine jaL0 (p := 78) rfl jM92 jq92_77 ?_
        refine jiL4 (p := 80) rfl jM92 jq92_78 ?_
        refine jw_callV [(jb_v s0)] jM92 jq92_80 rfl rfl (jo_81 hF) rfl jM96 rfl rfl ?_
        exact h4
    · have h3 := h2.2 c3
      refine jaL0 (p := 41) rfl jM92 jq92_40 ?_
      refine jw_getP (p := 44) (i := 1) (q := 63) rfl jM92 jq92_41 rfl (jo_81 hF) je_8_1 (jp_81_1 hF) ?_
      refine jaL0 (p := 45) rfl jM92 jq92_44 ?_
      refine jw_getP (p := 48) (i := 3) (q := 82) rfl jM92 jq92_45 rfl (jo_81 hF) je_8_3 (jp_81_3 hF) ?_
      refine jiL4 (p := 50) rfl jM92 jq92_48 ?_
      refine jw_iald (p := 51) rfl jM92 jq92_50 (ja_82 hF) c2.1 c2.2 ?_
      refine jw_callV [(jb_v (jb_i σ 82 s0))] jM92 jq92_51 rfl rfl (jo_63 hF) rfl jM19 rfl rfl ?_
      exact h3
  · have h1 := h.2 c1
    refine jw_iconst (p := 28) rfl jM92 jq92_27 ?_
    exact jw_iret jM92 jq92_28 (fun _ => Or.inr rfl) h1
theorem jk92_192_2 {d : Nat} {σ : ib_H} {Q : ib_O → Prop} {l1 : Int} {l2 : Int} {l3 : Int} {l4 : Int} {l5 : Nat} {l6 : Int} {l7 : Int} {l8 : Int} {s0 : Int} (hF : jb_F σ) (hl1 : jb_r l1) (hl2 : jb_r l2) (hl3 : jb_r l3) (hl4 : jb_r l4) (hl5 : l5 ≠ 0 → jb_rc σ l5) (hl6 : jb_r l6) (hl7 : jb_r l7) (hl8 : jb_r l8) (hs0 : jb_r s0)
    (h : jb_w d 82 0 [some (.ref 79)] [] σ (jb_k (d + 1) 92 204 [some (.ref 81), some (jb_v l1), some (jb_v l2), some (jb_v l3), some (jb_v l4), some (.ref l5), some (jb_v l6), some (jb_v l7), some (jb_v s0)] [(jb_v s0), (.ref 79)] Q)) :
    jb_w (d + 1) 92 192 [some (.ref 81), some (jb_v l1), some (jb_v l2), some (jb_v l3), some (jb_v l4), some (.ref l5), some (jb_v l6), some (jb_v l7), some (jb_v l8)] [(jb_v s0)] σ Q := by
  refine jiS8 (p := 194) rfl jM92 jq92_192 ?_
  refine jaL0 (p := 195) rfl jM92 jq92_194 ?_
  refine jw_getP (p := 198) (i := 0) (q := 79) rfl jM92 jq92_195 rfl (jo_81 hF) je_8_0 (jp_81_0 hF) ?_
  refine jiL8 (p := 200) rfl jM92 jq92_198 ?_
  refine jaL0 (p := 201) rfl jM92 jq92_200 ?_
  refine jw_getP (p := 204) (i := 0) (q := 79) rfl jM92 jq92_201 rfl (jo_81 hF) je_8_0 (jp_81_0 hF) ?_
  refine jw_callV [] jM92 jq92_204 rfl rfl (jo_79 hF) rfl jM82 rfl rfl ?_
  exact h
theorem jk92_7_7 {d : Nat} {σ : ib_H} {Q : ib_O → Prop} {l1 : Int} {l2 : Int} {l3 : Int} {l4 : Int} {l6 : Int} {l7 : Int} {l8 : Int} (hF : jb_F σ) (hl1 : jb_r l1) (hl2 : jb_r l2) (hl3 : jb_r l3) (hl4 : jb_r l4) (hl6 : jb_r l6) (hl7 : jb_r l7) (hl8 : jb_r l8)
    (h : (1104 ≤ l3 → Q (.inl (some (jb_v 1)), σ)) ∧ (¬ (1104 ≤ l3) → jb_w d 93 0 [some (.ref 81), some (jb_v l1), none, none] [] σ (jb_k (d + 1) 92 16 [some (.ref 81), some (jb_v l1), some (jb_v l2), some (jb_v l3), some (jb_v l4), some (.ref 0), some (jb_v l6), some (jb_v l7), some (jb_v l8)] [] Q))) :
    jb_w (d + 1) 92 7 [some (.ref 81), some (jb_v l1), some (jb_v l2), some (jb_v l3), some (jb_v l4), some (.ref 0), some (jb_v l6), some (jb_v l7), some (jb_v l8)] [] σ Q := by
  refine jiL3 (p := 8) rfl jM92 jq92_7 ?_
  refine jw_sipush (p := 11) rfl jM92 jq92_8 (by decide) ?_
  refine jw_ic (p := 14) rfl jM92 jq92_11 (jc_ge hl3 (jb_rn rfl)) (fun c1 => ?_) (fun c1 => ?_)
  · have h1 := h.1 c1
    refine jw_iconst (p := 242) rfl jM92 jq92_241 ?_
    exact jw_iret jM92 jq92_242 (fun _ => Or.inr rfl) h1
  · have h1 := h.2 c1
    refine jaL0 (p := 15) rfl jM92 jq92_14 ?_
    refine jiL1 (p := 16) rfl jM92 jq92_15 ?_
    refine jw_callV [(jb_v l1)] jM92 jq92_16 rfl rfl (jo_81 hF) rfl jM93 rfl rfl ?_
    exact h1
theorem jk92_83_5 {d : Nat} {σ : ib_H} {Q : ib_O → Prop} {l1 : Int} {l2 : Int} {l3 : Int} {l4 : Int} {l6 : Int} {l7 : Int} {l8 : Int} {s0 : Int} (hF : jb_F σ) (hl1 : jb_r l1) (hl2 : jb_r l2) (hl3 : jb_r l3) (hl4 : jb_r l4) (hl6 : jb_r l6) (hl7 : jb_r l7) (hl8 : jb_r l8) (hs0 : jb_r s0)
    (h : (¬ s0 = 0 → jb_w d 92 7 [some (.ref 81), some (jb_v l1), some (jb_v l2), some (jb_v (l3 + 1)), some (jb_v l4), some (.ref 0), some (jb_v l6), some (jb_v l7), some (jb_v l8)] [] σ Q) ∧ (¬ (¬ s0 = 0) → Q (.inl (some (jb_v 0)), σ))) :
    jb_w d 92 83 [some (.ref 81), some (jb_v l1), some (jb_v l2), some (jb_v l3), some (jb_v l4), some (.ref 0), some (jb_v l6), some (jb_v l7), some (jb_v l8)] [(jb_v s0)] σ Q := by
  refine jw_if (p := 86) rfl jM92 jq92_83 (jc_ne hs0 jb_r0) (fun c1 => ?_) (fun c1 => ?_)
  · have h1 := h.1 c1
    refine jiI3 (p := 238) rfl jM92 jq92_235 ?_
    refine jw_goto jM92 jq92_238 ?_
    exact h1
  · have h1 := h.2 c1
    refine jw_iconst (p := 87) rfl jM92 jq92_86 ?_
    exact jw_iret jM92 jq92_87 (fun _ => Or.inl rfl) h1
theorem jk92_54_6 {d : Nat} {σ : ib_H} {Q : ib_O → Prop} {l1 : Int} {l2 : Int} {l3 : Int} {l4 : Int} {l5 : Nat} {l6 : Int} {l7 : Int} {l8 : Int} {s0 : Nat} (hF : jb_F σ) (hl1 : jb_r l1) (hl2 : jb_r l2) (hl3 : jb_r l3) (hl4 : jb_r l4) (hl5 : l5 ≠ 0 → jb_rc σ l5) (hl6 : jb_r l6) (hl7 : jb_r l7) (hl8 : jb_r l8) (hs0 : s0 ≠ 0 → jb_rc σ s0)
    (h : (¬ s0 = 0 → jb_w d 94 0 [some (.ref 81), some (.ref s0), none] [] σ (jb_k (d + 1) 92 97 [some (.ref 81), some (jb_v l1), some (jb_v l2), some (jb_v l3), some (jb_v l4), some (.ref s0), some (jb_v l6), some (jb_v l7), some (jb_v l8)] [(jb_v l4), (.ref 82)] Q)) ∧ (s0 = 0 → (0 ≤ l4 ∧ l4 < 4) ∧ ((l2 = 0 → jb_w (d + 1) 92 7 [some (.ref 81), some (jb_v l1), some (jb_v l2), some (jb_v (l3 + 1)), some (jb_v l4), some (.ref s0), some (jb_v l6), some (jb_v l7), some (jb_v l8)] [] (jb_si σ 82 l4 (-1)) Q) ∧ (¬ (l2 = 0) → jb_w d 96 0 [some (.ref 81), some (jb_v l4)] [] (jb_si σ 82 l4 (-1)) (jb_k (d + 1) 92 80 [some (.ref 81), some (jb_v l1), some (jb_v l2), some (jb_v l3), some (jb_v l4), some (.ref s0), some (jb_v l6), some (jb_v l7), some (jb_v l8)] [] Q))))) :
    jb_w (d + 1) 92 54 [some (.ref 81), some (jb_v l1), some (jb_v l2), some (jb_v l3), some (jb_v l4), some (.ref l5), some (jb_v l6), some (jb_v l7), some (jb_v l8)] [(.ref s0)] σ Q := by
  refine jw_goto jM92 jq92_54 ?_
  refine jaS5 (p := 60) rfl jM92 jq92_58 ?_
  refine jaL5 (p := 62) rfl jM92 jq92_60 ?_
  refine jw_ifnonnull (p := 65) rfl jM92 jq92_62 (fun c1 => ?_) (fun c1 => ?_)
  · have h1 := h.1 c1
    refine jaL0 (p := 89) rfl jM92 jq92_88 ?_
    refine jw_getP (p := 92) (i := 3) (q := 82) rfl jM92 jq92_89 rfl (jo_81 hF) je_8_3 (jp_81_3 hF) ?_
    refine jiL4 (p := 94) rfl jM92 jq92_92 ?_
    refine jaL0 (p := 95) rfl jM92 jq92_94 ?_
    refine jaL5 (p := 97) rfl jM92 jq92_95 ?_
    refine jw_callV [(.ref s0)] jM92 jq92_97 rfl rfl (jo_81 hF) rfl jM94 rfl rfl ?_
    exact h1
  · have h1 := h.2 c1
    refine jaL0 (p := 66) rfl jM92 jq92_65 ?_
    refine jw_getP (p := 69) (i := 3) (q := 82) rfl jM92 jq92_66 rfl (jo_81 hF) je_8_3 (jp_81_3 hF) ?_
    refine jiL4 (p := 71) rfl jM92 jq92_69 ?_
    refine jw_iconst (p := 72) rfl jM92 jq92_71 ?_
    obtain ⟨c2, h2⟩ := h1
    refine jw_iast (p := 73) rfl jM92 jq92_72 (ja_82 hF) c2.1 c2.2 ?_
    refine jiL2 (p := 74) rfl jM92 jq92_73 ?_
    refine jw_if (p := 77) rfl jM92 jq92_74 (jc_eq hl2 jb_r0) (fun c3 => ?_) (fun c3 => ?_)
    · have h3 := h2.1 c3
      refine jiI3 (p := 238) rfl jM92 jq92_235 ?_
      refine jw_goto jM92 jq92_238 ?_
      exact h3
    · have h3 := h2.2 c3
      refine jaL0 (p := 78) rfl jM92 jq92_77 ?_
      refine jiL4 (p := 80) rfl jM92 jq92_78 ?_
      refine jw_callV [(jb_v l4)] jM92 jq92_80 rfl rfl (jo_81 hF) rfl jM96 rfl rfl ?_
      exact h3
theorem jk92_19_7 {d : Nat} {σ : ib_H} {Q : ib_O → Prop} {l1 : Int} {l2 : Int} {l3 : Int} {l4 : Int} {l6 : Int} {l7 : Int} {l8 : Int} {s0 : Int} (hF : jb_F σ) (hl1 : jb_r l1) (hl2 : jb_r l2) (hl3 : jb_r l3) (hl4 : jb_r l4) (hl6 : jb_r l6) (hl7 : jb_r l7) (hl8 : jb_r l8) (hs0 : jb_r s0)
    (h : (¬ s0 = (-1) → (0 ≤ s0 ∧ s0 < 4) ∧ ((jb_i σ 82 s0 ≤ l1 → (l2 = 0 → jb_w (d + 1) 92 7 [some (.ref 81), some (jb_v l1), some (jb_v l2), some (jb_v (l3 + 1)), some (jb_v s0), some (.ref 0), some (jb_v l6), some (jb_v l7), some (jb_v l8)] [] (jb_si σ 82 s0 (-1)) Q) ∧ (¬ (l2 = 0) → jb_w d 96 0 [some (.ref 81), some (jb_v s0)] [] (jb_si σ 82 s0 (-1)) (jb_k (d + 1) 92 80 [some (.ref 81), some (jb_v l1), some (jb_v l2), some (jb_v l3), some (jb_v s0), some (.ref 0), some (jb_v l6), some (jb_v l7), some (jb_v l8)] [] Q))) ∧ (¬ (jb_i σ 82 s0 ≤ l1) → jb_w d 19 0 [some (.ref 63), some (jb_v (jb_i σ 82 s0))] [] σ (jb_k (d + 1) 92 51 [some (.ref 81), some (jb_v l1), some (jb_v l2), some (jb_v l3), some (jb_v s0), some (.ref 0), some (jb_v l6), some (jb_v l7), some (jb_v l8)] [] Q)))) ∧ (¬ (¬ s0 = (-1)) → Q (.inl (some (jb_v 1)), σ))) :
    jb_w (d + 1) 92 19 [some (.ref 81), some (jb_v l1), some (jb_v l2), some (jb_v l3), some (jb_v l4), some (.ref 0), some (jb_v l6), some (jb_v l7), some (jb_v l8)] [(jb_v s0)] σ Q := by
  refine jiS4 (p := 21) rfl jM92 jq92_19 ?_
  refine jiL4 (p := 23) rfl jM92 jq92_21 ?_
  refine jw_iconst (p := 24) rfl jM92 jq92_23 ?_
  refine jw_ic (p := 27) rfl jM92 jq92_24 (jc_ne hs0 (jb_rn rfl)) (fun c1 => ?_) (fun c1 => ?_)
  · have h1 := h.1 c1
    refine jaL0 (p := 30) rfl jM92 jq92_29 ?_
    refine jw_getP (p := 33) (i := 3) (q := 82) rfl jM92 jq92_30 rfl (jo_81 hF) je_8_3 (jp_81_3 hF) ?_
    refine jiL4 (p := 35) rfl jM92 jq92_33 ?_
    obtain ⟨c2, h2⟩ := h1
    refine jw_iald (p := 36) rfl jM92 jq92_35 (ja_82 hF) c2.1 c2.2 ?_
    refine jiL1 (p := 37) rfl jM92 jq92_36 ?_
    refine jw_ic (p := 40) rfl jM92 jq92_37 (jc_le (jb_r_i _ _ _) hl1) (fun c3 => ?_) (fun c3 => ?_)
    · have h3 := h2.1 c3
      refine jw_null (p := 58) rfl jM92 jq92_57 ?_
      refine jaS5 (p := 60) rfl jM92 jq92_58 ?_
      refine jaL5 (p := 62) rfl jM92 jq92_60 ?_
      refine jw_ifnonnull (p := 65) rfl jM92 jq92_62 (fun z => absurd rfl z) (fun _ => ?_)
      refine jaL0 (p := 66) rfl jM92 jq92_65 ?_
      refine jw_getP (p := 69) (i := 3) (q := 82) rfl jM92 jq92_66 rfl (jo_81 hF) je_8_3 (jp_81_3 hF) ?_
      refine jiL4 (p := 71) rfl jM92 jq92_69 ?_
      refine jw_iconst (p := 72) rfl jM92 jq92_71 ?_
      refine jw_iast (p := 73) rfl jM92 jq92_72 (ja_82 hF) c2.1 c2.2 ?_
      refine jiL2 (p := 74) rfl jM92 jq92_73 ?_
      refine jw_if (p := 77) rfl jM92 jq92_74 (jc_eq hl2 jb_r0) (fun c4 => ?_) (fun c4 => ?_)
      · have h4 := h3.1 c4
        refine jiI3 (p := 238) rfl jM92 jq92_235 ?_
        refine jw_goto jM92 jq92_238 ?_
        exact h4
      · have h4 := h3.2 c4
        refine jaL0 (p := 78) rfl jM92 jq92_77 ?_
        refine jiL4 (p := 80) rfl jM92 jq92_78 ?_
        refine jw_callV [(jb_v s0)] jM92 jq92_80 rfl rfl (jo_81 hF) rfl jM96 rfl rfl ?_
        exact h4
    · have h3 := h2.2 c3
      refine jaL0 (p := 41) rfl jM92 jq92_40 ?_
      refine jw_getP (p := 44) (i := 1) (q := 63) rfl jM92 jq92_41 rfl (jo_81 hF) je_8_1 (jp_81_1 hF) ?_
      refine jaL0 (p := 45) rfl jM92 jq92_44 ?_
      refine jw_getP (p := 48) (i := 3) (q := 82) rfl jM92 jq92_45 rfl (jo_81 hF) je_8_3 (jp_81_3 hF) ?_
      refine jiL4 (p := 50) rfl jM92 jq92_48 ?_
      refine jw_iald (p := 51) rfl jM92 jq92_50 (ja_82 hF) c2.1 c2.2 ?_
      refine jw_callV [(jb_v (jb_i σ 82 s0))] jM92 jq92_51 rfl rfl (jo_63 hF) rfl jM19 rfl rfl ?_
      exact h3
  · have h1 := h.2 c1
    refine jw_iconst (p := 28) rfl jM92 jq92_27 ?_
    exact jw_iret jM92 jq92_28 (fun _ => Or.inr rfl) h1
theorem jk92_100_3 {d : Nat} {σ : ib_H} {Q : ib_O → Prop} {l1 : Int} {l2 : Int} {l3 : Int} {l4 : Int} {l5 : Nat} {l6 : Int} {l7 : Int} {l8 : Int} {s1 : Int} {s2 : Int} (hF : jb_F σ) (hl1 : jb_r l1) (hl2 : jb_r l2) (hl3 : jb_r l3) (hl4 : jb_r l4) (hl5 : l5 ≠ 0 → jb_rc σ l5) (hl6 : jb_r l6) (hl7 : jb_r l7) (hl8 : jb_r l8) (hs1 : jb_r s1) (hs2 : jb_r s2)
    (h : (0 ≤ s1 ∧ s1 < 4) ∧ ((l5 ≠ 0) ∧ ((jb_i (jb_si σ 82 s1 s2) l5 1 = 0 → jb_w d 71 0 [some (.ref 79), some (jb_v (jb_i (jb_si σ 82 s1 s2) l5 3)), none, none, none] [] (jb_si σ 82 s1 s2) (jb_k (d + 1) 92 121 [some (.ref 81), some (jb_v l1), some (jb_v l2), some (jb_v l3), some (jb_v l4), some (.ref l5), some (jb_v l6), some (jb_v l7), some (jb_v l8)] [] Q)) ∧ (¬ (jb_i (jb_si σ 82 s1 s2) l5 1 = 0) → jb_w (d + 1) 92 7 [some (.ref 81), some (jb_v l1), some (jb_v l2), some (jb_v (l3 + 1)), some (jb_v l4), some (.ref l5), some (jb_v l6), some (jb_v l7), some (jb_v l8)] [] (jb_si σ 82 s1 s2) Q)))) :
    jb_w (d + 1) 92 100 [some (.ref 81), some (jb_v l1), some (jb_v l2), some (jb_v l3), some (jb_v l4), some (.ref l5), some (jb_v l6), some (jb_v l7), some (jb_v l8)] [(jb_v s2), (jb_v s1), (.ref 82)] σ Q := by
  obtain ⟨c1, h1⟩ := h
  refine jw_iast (p := 101) rfl jM92 jq92_100 (ja_82 hF) c1.1 c1.2 ?_
  refine jaL5 (p := 103) rfl jM92 jq92_101 ?_
  obtain ⟨c2, h2⟩ := h1
  refine jw_getI (p := 106) (i := 1) rfl jM92 jq92_103 rfl (hl5 c2).ob jn_3_1 ?_
  refine jw_if (p := 109) rfl jM92 jq92_106 (jc_eq (jb_r_i _ _ _) jb_r0) (fun c3 => ?_) (fun c3 => ?_)
  · have h3 := h2.1 c3
    refine jaL0 (p := 113) rfl jM92 jq92_112 ?_
    refine jw_getP (p := 116) (i := 0) (q := 79) rfl jM92 jq92_113 rfl (jo_81 hF) je_8_0 (jp_81_0 hF) ?_
    refine jaL5 (p := 118) rfl jM92 jq92_116 ?_
    refine jw_getI (p := 121) (i := 3) rfl jM92 jq92_118 rfl (hl5 c2).ob jn_3_3 ?_
    refine jw_callV [(jb_v (jb_i (jb_si σ 82 s1 s2) l5 3))] jM92 jq92_121 rfl rfl (jo_79 hF) rfl jM71 rfl rfl ?_
    exact h3
  · have h3 := h2.2 c3
    refine jw_goto jM92 jq92_109 ?_
    refine jiI3 (p := 238) rfl jM92 jq92_235 ?_
    refine jw_goto jM92 jq92_238 ?_
    exact h3
theorem jk92_83_6 {d : Nat} {σ : ib_H} {Q : ib_O → Prop} {l1 : Int} {l2 : Int} {l3 : Int} {l4 : Int} {l5 : Nat} {l6 : Int} {l7 : Int} {l8 : Int} {s0 : Int} (hF : jb_F σ) (hl1 : jb_r l1) (hl2 : jb_r l2) (hl3 : jb_r l3) (hl4 : jb_r l4) (hl5 : l5 ≠ 0 → jb_rc σ l5) (hl6 : jb_r l6) (hl7 : jb_r l7) (hl8 : jb_r l8) (hs0 : jb_r s0)
    (h : (¬ s0 = 0 → jb_w d 92 7 [some (.ref 81), some (jb_v l1), some (jb_v l2), some (jb_v (l3 + 1)), some (jb_v l4), some (.ref l5), some (jb_v l6), some (jb_v l7), some (jb_v l8)] [] σ Q) ∧ (¬ (¬ s0 = 0) → Q (.inl (some (jb_v 0)), σ))) :
    jb_w d 92 83 [some (.ref 81), some (jb_v l1), some (jb_v l2), some (jb_v l3), some (jb_v l4), some (.ref l5), some (jb_v l6), some (jb_v l7), some (jb_v l8)] [(jb_v s0)] σ Q := by
  refine jw_if (p := 86) rfl jM92 jq92_83 (jc_ne hs0 jb_r0) (fun c1 => ?_) (fun c1 => ?_)
  · have h1 := h.1 c1
    refine jiI3 (p := 238) rfl jM92 jq92_235 ?_
    refine jw_goto jM92 jq92_238 ?_
    exact h1
  · have h1 := h.2 c1
    refine jw_iconst (p := 87) rfl jM92 jq92_86 ?_
    exact jw_iret jM92 jq92_87 (fun _ => Or.inl rfl) h1
theorem jk92_54_7 {d : Nat} {σ : ib_H} {Q : ib_O → Prop} {l1 : Int} {l2 : Int} {l3 : Int} {l4 : Int} {l6 : Int} {l7 : Int} {l8 : Int} {s0 : Nat} (hF : jb_F σ) (hl1 : jb_r l1) (hl2 : jb_r l2) (hl3 : jb_r l3) (hl4 : jb_r l4) (hl6 : jb_r l6) (hl7 : jb_r l7) (hl8 : jb_r l8) (hs0 : s0 ≠ 0 → jb_rc σ s0)
    (h : (¬ s0 = 0 → jb_w d 94 0 [some (.ref 81), some (.ref s0), none] [] σ (jb_k (d + 1) 92 97 [some (.ref 81), some (jb_v l1), some (jb_v l2), some (jb_v l3), some (jb_v l4), some (.ref s0), some (jb_v l6), some (jb_v l7), some (jb_v l8)] [(jb_v l4), (.ref 82)] Q)) ∧ (s0 = 0 → (0 ≤ l4 ∧ l4 < 4) ∧ ((l2 = 0 → jb_w (d + 1) 92 7 [some (.ref 81), some (jb_v l1), some (jb_v l2), some (jb_v (l3 + 1)), some (jb_v l4), some (.ref s0), some (jb_v l6), some (jb_v l7), some (jb_v l8)] [] (jb_si σ 82 l4 (-1)) Q) ∧ (¬ (l2 = 0) → jb_w d 96 0 [some (.ref 81), some (jb_v l4)] [] (jb_si σ 82 l4 (-1)) (jb_k (d + 1) 92 80 [some (.ref 81), some (jb_v l1), some (jb_v l2), some (jb_v l3), some (jb_v l4), some (.ref s0), some (jb_v l6), some (jb_v l7), some (jb_v l8)] [] Q))))) :
    jb_w (d + 1) 92 54 [some (.ref 81), some (jb_v l1), some (jb_v l2), some (jb_v l3), some (jb_v l4), some (.ref 0), some (jb_v l6), some (jb_v l7), some (jb_v l8)] [(.ref s0)] σ Q := by
  refine jw_goto jM92 jq92_54 ?_
  refine jaS5 (p := 60) rfl jM92 jq92_58 ?_
  refine jaL5 (p := 62) rfl jM92 jq92_60 ?_
  refine jw_ifnonnull (p := 65) rfl jM92 jq92_62 (fun c1 => ?_) (fun c1 => ?_)
  · have h1 := h.1 c1
    refine jaL0 (p := 89) rfl jM92 jq92_88 ?_
    refine jw_getP (p := 92) (i := 3) (q := 82) rfl jM92 jq92_89 rfl (jo_81 hF) je_8_3 (jp_81_3 hF) ?_
    refine jiL4 (p := 94) rfl jM92 jq92_92 ?_
    refine jaL0 (p := 95) rfl jM92 jq92_94 ?_
    refine jaL5 (p := 97) rfl jM92 jq92_95 ?_
    refine jw_callV [(.ref s0)] jM92 jq92_97 rfl rfl (jo_81 hF) rfl jM94 rfl rfl ?_
    exact h1
  · have h1 := h.2 c1
    refine jaL0 (p := 66) rfl jM92 jq92_65 ?_
    refine jw_getP (p := 69) (i := 3) (q := 82) rfl jM92 jq92_66 rfl (jo_81 hF) je_8_3 (jp_81_3 hF) ?_
    refine jiL4 (p := 71) rfl jM92 jq92_69 ?_
    refine jw_iconst (p := 72) rfl jM92 jq92_71 ?_
    obtain ⟨c2, h2⟩ := h1
    refine jw_iast (p := 73) rfl jM92 jq92_72 (ja_82 hF) c2.1 c2.2 ?_
    refine jiL2 (p := 74) rfl jM92 jq92_73 ?_
    refine jw_if (p := 77) rfl jM92 jq92_74 (jc_eq hl2 jb_r0) (fun c3 => ?_) (fun c3 => ?_)
    · have h3 := h2.1 c3
      refine jiI3 (p := 238) rfl jM92 jq92_235 ?_
      refine jw_goto jM92 jq92_238 ?_
      exact h3
    · have h3 := h2.2 c3
      refine jaL0 (p := 78) rfl jM92 jq92_77 ?_
      refine jiL4 (p := 80) rfl jM92 jq92_78 ?_
      refine jw_callV [(jb_v l4)] jM92 jq92_80 rfl rfl (jo_81 hF) rfl jM96 rfl rfl ?_
      exact h3
theorem jk92_124_3 {d : Nat} {σ : ib_H} {Q : ib_O → Prop} {l1 : Int} {l2 : Int} {l3 : Int} {l4 : Int} {l5 : Nat} {l6 : Int} {l7 : Int} {l8 : Int} {s0 : Int} (hF : jb_F σ) (hl1 : jb_r l1) (hl2 : jb_r l2) (hl3 : jb_r l3) (hl4 : jb_r l4) (hl5 : l5 ≠ 0 → jb_rc σ l5) (hl6 : jb_r l6) (hl7 : jb_r l7) (hl8 : jb_r l8) (hs0 : jb_r s0)
    (h : (s0 = 0 → jb_w (d + 1) 92 163 [some (.ref 81), some (jb_v l1), some (jb_v l2), some (jb_v l3), some (jb_v l4), some (.ref l5), some (jb_v 0), some (jb_v 0), some (jb_v l8)] [] σ Q) ∧ (¬ (s0 = 0) → jb_w d 95 0 [some (.ref 81), some (.ref l5), none] [] σ (jb_k (d + 1) 92 130 [some (.ref 81), some (jb_v l1), some (jb_v l2), some (jb_v l3), some (jb_v l4), some (.ref l5), some (jb_v l6), some (jb_v l7), some (jb_v l8)] [] Q))) :
    jb_w (d + 1) 92 124 [some (.ref 81), some (jb_v l1), some (jb_v l2), some (jb_v l3), some (jb_v l4), some (.ref l5), some (jb_v l6), some (jb_v l7), some (jb_v l8)] [(jb_v s0)] σ Q := by
  refine jw_if (p := 127) rfl jM92 jq92_124 (jc_eq hs0 jb_r0) (fun c1 => ?_) (fun c1 => ?_)
  · have h1 := h.1 c1
    refine jw_iconst (p := 158) rfl jM92 jq92_157 ?_
    refine jiS6 (p := 160) rfl jM92 jq92_158 ?_
    refine jw_iconst (p := 161) rfl jM92 jq92_160 ?_
    refine jiS7 (p := 163) rfl jM92 jq92_161 ?_
    exact h1
  · have h1 := h.2 c1
    refine jaL0 (p := 128) rfl jM92 jq92_127 ?_
    refine jaL5 (p := 130) rfl jM92 jq92_128 ?_
    refine jw_callV [(.ref l5)] jM92 jq92_130 rfl rfl (jo_81 hF) rfl jM95 rfl rfl ?_
    exact h1
theorem jk92_133_3 {d : Nat} {σ : ib_H} {Q : ib_O → Prop} {l1 : Int} {l2 : Int} {l3 : Int} {l4 : Int} {l5 : Nat} {l6 : Int} {l7 : Int} {l8 : Int} {s0 : Int} (hF : jb_F σ) (hl1 : jb_r l1) (hl2 : jb_r l2) (hl3 : jb_r l3) (hl4 : jb_r l4) (hl5 : l5 ≠ 0 → jb_rc σ l5) (hl6 : jb_r l6) (hl7 : jb_r l7) (hl8 : jb_r l8) (hs0 : jb_r s0)
    (h : (s0 = 0 → jb_w (d + 1) 92 163 [some (.ref 81), some (jb_v l1), some (jb_v l2), some (jb_v l3), some (jb_v l4), some (.ref l5), some (jb_v 0), some (jb_v 0), some (jb_v l8)] [] σ Q) ∧ (¬ (s0 = 0) → jb_w d 80 0 [some (.ref 79), some (jb_v (jb_i σ 63 4)), none, none, none, none] [] σ (jb_k (d + 1) 92 147 [some (.ref 81), some (jb_v l1), some (jb_v l2), some (jb_v l3), some (jb_v l4), some (.ref l5), some (jb_v l6), some (jb_v l7), some (jb_v l8)] [] Q))) :
    jb_w (d + 1) 92 133 [some (.ref 81), some (jb_v l1), some (jb_v l2), some (jb_v l3), some (jb_v l4), some (.ref l5), some (jb_v l6), some (jb_v l7), some (jb_v l8)] [(jb_v s0)] σ Q := by
  refine jw_if (p := 136) rfl jM92 jq92_133 (jc_eq hs0 jb_r0) (fun c1 => ?_) (fun c1 => ?_)
  · have h1 := h.1 c1
    refine jw_iconst (p := 158) rfl jM92 jq92_157 ?_
    refine jiS6 (p := 160) rfl jM92 jq92_158 ?_
    refine jw_iconst (p := 161) rfl jM92 jq92_160 ?_
    refine jiS7 (p := 163) rfl jM92 jq92_161 ?_
    exact h1
  · have h1 := h.2 c1
    refine jaL0 (p := 137) rfl jM92 jq92_136 ?_
    refine jw_getP (p := 140) (i := 0) (q := 79) rfl jM92 jq92_137 rfl (jo_81 hF) je_8_0 (jp_81_0 hF) ?_
    refine jaL0 (p := 141) rfl jM92 jq92_140 ?_
    refine jw_getP (p := 144) (i := 1) (q := 63) rfl jM92 jq92_141 rfl (jo_81 hF) je_8_1 (jp_81_1 hF) ?_
    refine jw_getI (p := 147) (i := 4) rfl jM92 jq92_144 rfl (jo_63 hF) jn_2_4 ?_
    refine jw_callV [(jb_v (jb_i σ 63 4))] jM92 jq92_147 rfl rfl (jo_79 hF) rfl jM80 rfl rfl ?_
    exact h1
theorem jk92_150_3 {d : Nat} {σ : ib_H} {Q : ib_O → Prop} {l1 : Int} {l2 : Int} {l3 : Int} {l4 : Int} {l5 : Nat} {l6 : Int} {l7 : Int} {l8 : Int} {s0 : Int} (hF : jb_F σ) (hl1 : jb_r l1) (hl2 : jb_r l2) (hl3 : jb_r l3) (hl4 : jb_r l4) (hl5 : l5 ≠ 0 → jb_rc σ l5) (hl6 : jb_r l6) (hl7 : jb_r l7) (hl8 : jb_r l8) (hs0 : jb_r s0)
    (h : (s0 = 0 → jb_w d 92 163 [some (.ref 81), some (jb_v l1), some (jb_v l2), some (jb_v l3), some (jb_v l4), some (.ref l5), some (jb_v 0), some (jb_v 0), some (jb_v l8)] [] σ Q) ∧ (¬ (s0 = 0) → jb_w d 92 163 [some (.ref 81), some (jb_v l1), some (jb_v l2), some (jb_v l3), some (jb_v l4), some (.ref l5), some (jb_v 1), some (jb_v 0), some (jb_v l8)] [] σ Q)) :
    jb_w d 92 150 [some (.ref 81), some (jb_v l1), some (jb_v l2), some (jb_v l3), some (jb_v l4), some (.ref l5), some (jb_v l6), some (jb_v l7), some (jb_v l8)] [(jb_v s0)] σ Q := by
  refine jw_if (p := 153) rfl jM92 jq92_150 (jc_eq hs0 jb_r0) (fun c1 => ?_) (fun c1 => ?_)
  · have h1 := h.1 c1
    refine jw_iconst (p := 158) rfl jM92 jq92_157 ?_
    refine jiS6 (p := 160) rfl jM92 jq92_158 ?_
    refine jw_iconst (p := 161) rfl jM92 jq92_160 ?_
    refine jiS7 (p := 163) rfl jM92 jq92_161 ?_
    exact h1
  · have h1 := h.2 c1
    refine jw_iconst (p := 154) rfl jM92 jq92_153 ?_
    refine jw_goto jM92 jq92_154 ?_
    refine jiS6 (p := 160) rfl jM92 jq92_158 ?_
    refine jw_iconst (p := 161) rfl jM92 jq92_160 ?_
    refine jiS7 (p := 163) rfl jM92 jq92_161 ?_
    exact h1
-- 93 PageLoom$Undoing.nextTransaction(I)I
theorem jk93_0 {d : Nat} {σ : ib_H} {Q : ib_O → Prop} {l1 : Int} (hF : jb_F σ) (hl1 : jb_r l1)
    (h : jb_w d 93 4 [some (.ref 81), some (jb_v l1), some (jb_v (-1)), some (jb_v 0)] [] σ Q) :
    jb_w d 93 0 [some (.ref 81), some (jb_v l1), none, none] [] σ Q := by
  refine jw_iconst (p := 1) rfl jM93 jq93_0 ?_
  refine jiS2 (p := 2) rfl jM93 jq93_1 ?_
  refine jw_iconst (p := 3) rfl jM93 jq93_2 ?_
  refine jiS3 (p := 4) rfl jM93 jq93_3 ?_
  exact h
theorem jk93_4 {d : Nat} {σ : ib_H} {Q : ib_O → Prop} {l1 : Int} {l2 : Int} {l3 : Int} (hF : jb_F σ) (hl1 : jb_r l1) (hl2 : jb_r l2) (hl3 : jb_r l3)
    (h : (4 ≤ l3 → Q (.inl (some (jb_v l2)), σ)) ∧ (¬ (4 ≤ l3) → (0 ≤ l3 ∧ l3 < 4) ∧ ((¬ jb_i σ 82 l3 = (-1) → (l1 < jb_i σ 82 l3 → (l2 = (-1) → jb_w d 93 4 [some (.ref 81), some (jb_v l1), some (jb_v l3), some (jb_v (l3 + 1))] [] σ Q) ∧ (¬ (l2 = (-1)) → (0 ≤ l2 ∧ l2 < 4) ∧ ((jb_i σ 82 l3 ≤ jb_i σ 82 l2 → jb_w d 93 4 [some (.ref 81), some (jb_v l1), some (jb_v l2), some (jb_v (l3 + 1))] [] σ Q) ∧ (¬ (jb_i σ 82 l3 ≤ jb_i σ 82 l2) → jb_w d 93 4 [some (.ref 81), some (jb_v l1), some (jb_v l3), some (jb_v (l3 + 1))] [] σ Q)))) ∧ (¬ (l1 < jb_i σ 82 l3) → Q (.inl (some (jb_v l3)), σ))) ∧ (¬ (¬ jb_i σ 82 l3 = (-1)) → jb_w d 93 4 [some (.ref 81), some (jb_v l1), some (jb_v l2), some (jb_v (l3 + 1))] [] σ Q)))) :
    jb_w d 93 4 [some (.ref 81), some (jb_v l1), some (jb_v l2), some (jb_v l3)] [] σ Q := by
  refine jiL3 (p := 5) rfl jM93 jq93_4 ?_
  refine jw_iconst (p := 6) rfl jM93 jq93_5 ?_
  refine jw_ic (p := 9) rfl jM93 jq93_6 (jc_ge hl3 (jb_rn rfl)) (fun c1 => ?_) (fun c1 => ?_)
  · have h1 := h.1 c1
    refine jiL2 (p := 63) rfl jM93 jq93_62 ?_
    exact jw_iret jM93 jq93_63 (fun z => absurd z (by decide)) h1
  · have h1 := h.2 c1
    refine jaL0 (p := 10) rfl jM93 jq93_9 ?_
    refine jw_getP (p := 13) (i := 3) (q := 82) rfl jM93 jq93_10 rfl (jo_81 hF) je_8_3 (jp_81_3 hF) ?_
    refine jiL3 (p := 14) rfl jM93 jq93_13 ?_
    obtain ⟨c2, h2⟩ := h1
    refine jw_iald (p := 15) rfl jM93 jq93_14 (ja_82 hF) c2.1 c2.2 ?_
    refine jw_iconst (p := 16) rfl jM93 jq93_15 ?_
    refine jw_ic (p := 19) rfl jM93 jq93_16 (jc_ne (jb_r_i _ _ _) (jb_rn rfl)) (fun c3 => ?_) (fun c3 => ?_)
    · have h3 := h2.1 c3
      refine jaL0 (p := 23) rfl jM93 jq93_22 ?_
      refine jw_getP (p := 26) (i := 3) (q := 82) rfl jM93 jq93_23 rfl (jo_81 hF) je_8_3 (jp_81_3 hF) ?_
      refine jiL3 (p := 27) rfl jM93 jq93_26 ?_
      refine jw_iald (p := 28) rfl jM93 jq93_27 (ja_82 hF) c2.1 c2.2 ?_
      refine jiL1 (p := 29) rfl jM93 jq93_28 ?_
      refine jw_ic (p := 32) rfl jM93 jq93_29 (jc_gt (jb_r_i _ _ _) hl1) (fun c4 => ?_) (fun c4 => ?_)
      · have h4 := h3.1 c4
        refine jiL2 (p := 35) rfl jM93 jq93_34 ?_
        refine jw_iconst (p := 36) rfl jM93 jq93_35 ?_
        refine jw_ic (p := 39) rfl jM93 jq93_36 (jc_eq hl2 (jb_rn rfl)) (fun c5 => ?_) (fun c5 => ?_)
        · have h5 := h4.1 c5
          refine jiL3 (p := 55) rfl jM93 jq93_54 ?_
          refine jiS2 (p := 56) rfl jM93 jq93_55 ?_
          refine jiI3 (p := 59) rfl jM93 jq93_56 ?_
          refine jw_goto jM93 jq93_59 ?_
          exact h5
        · have h5 := h4.2 c5
          refine jaL0 (p := 40) rfl jM93 jq93_39 ?_
          refine jw_getP (p := 43) (i := 3) (q := 82) rfl jM93 jq93_40 rfl (jo_81 hF) je_8_3 (jp_81_3 hF) ?_
          refine jiL3 (p := 44) rfl jM93 jq93_43 ?_
          refine jw_iald (p := 45) rfl jM93 jq93_44 (ja_82 hF) c2.1 c2.2 ?_
          refine jaL0 (p := 46) rfl jM93 jq93_45 ?_
          refine jw_getP (p := 49) (i := 3) (q := 82) rfl jM93 jq93_46 rfl (jo_81 hF) je_8_3 (jp_81_3 hF) ?_
          refine jiL2 (p := 50) rfl jM93 jq93_49 ?_
          obtain ⟨c6, h6⟩ := h5
          refine jw_iald (p := 51) rfl jM93 jq93_50 (ja_82 hF) c6.1 c6.2 ?_
          refine jw_ic (p := 54) rfl jM93 jq93_51 (jc_le (jb_r_i _ _ _) (jb_r_i _ _ _)) (fun c7 => ?_) (fun c7 => ?_)
          · have h7 := h6.1 c7
            refine jiI3 (p := 59) rfl jM93 jq93_56 ?_
            refine jw_goto jM93 jq93_59 ?_
            exact h7
          · have h7 := h6.2 c7
            refine jiL3 (p := 55) rfl jM93 jq93_54 ?_
            refine jiS2 (p := 56) rfl jM93 jq93_55 ?_
            refine jiI3 (p := 59) rfl jM93 jq93_56 ?_
            refine jw_goto jM93 jq93_59 ?_
            exact h7
      · have h4 := h3.2 c4
        refine jiL3 (p := 33) rfl jM93 jq93_32 ?_
        exact jw_iret jM93 jq93_33 (fun z => absurd z (by decide)) h4
    · have h3 := h2.2 c3
      refine jw_goto jM93 jq93_19 ?_
      refine jiI3 (p := 59) rfl jM93 jq93_56 ?_
      refine jw_goto jM93 jq93_59 ?_
      exact h3
-- 94 PageLoom$Undoing.recordAheadOf(LPageLoom$LogRecord;)I
theorem jk94_0 {d : Nat} {σ : ib_H} {Q : ib_O → Prop} {l1 : Nat} (hF : jb_F σ) (hl1 : l1 ≠ 0 → jb_rc σ l1)
    (h : (l1 ≠ 0) ∧ ((¬ jb_i σ l1 1 = 1 → Q (.inl (some (jb_v (jb_i σ l1 6))), σ)) ∧ (¬ (¬ jb_i σ l1 1 = 1) → jb_w d 19 0 [some (.ref 63), some (jb_v (jb_i σ l1 7))] [] σ (jb_k (d + 1) 94 16 [some (.ref 81), some (.ref l1), none] [] Q)))) :
    jb_w (d + 1) 94 0 [some (.ref 81), some (.ref l1), none] [] σ Q := by
  refine jaL1 (p := 1) rfl jM94 jq94_0 ?_
  obtain ⟨c1, h1⟩ := h
  refine jw_getI (p := 4) (i := 1) rfl jM94 jq94_1 rfl (hl1 c1).ob jn_3_1 ?_
  refine jw_iconst (p := 5) rfl jM94 jq94_4 ?_
  refine jw_ic (p := 8) rfl jM94 jq94_5 (jc_ne (jb_r_i _ _ _) (jb_rn rfl)) (fun c2 => ?_) (fun c2 => ?_)
  · have h2 := h1.1 c2
    refine jw_null (p := 23) rfl jM94 jq94_22 ?_
    refine jaS2 (p := 24) rfl jM94 jq94_23 ?_
    refine jaL2 (p := 25) rfl jM94 jq94_24 ?_
    refine jw_ifnonnull (p := 28) rfl jM94 jq94_25 (fun z => absurd rfl z) (fun _ => ?_)
    refine jaL1 (p := 29) rfl jM94 jq94_28 ?_
    refine jw_getI (p := 32) (i := 6) rfl jM94 jq94_29 rfl (hl1 c1).ob jn_3_6 ?_
    refine jw_goto jM94 jq94_32 ?_
    exact jw_iret jM94 jq94_39 (fun z => absurd z (by decide)) h2
  · have h2 := h1.2 c2
    refine jaL0 (p := 9) rfl jM94 jq94_8 ?_
    refine jw_getP (p := 12) (i := 1) (q := 63) rfl jM94 jq94_9 rfl (jo_81 hF) je_8_1 (jp_81_1 hF) ?_
    refine jaL1 (p := 13) rfl jM94 jq94_12 ?_
    refine jw_getI (p := 16) (i := 7) rfl jM94 jq94_13 rfl (hl1 c1).ob jn_3_7 ?_
    refine jw_callV [(jb_v (jb_i σ l1 7))] jM94 jq94_16 rfl rfl (jo_63 hF) rfl jM19 rfl rfl ?_
    exact h2
theorem jk94_19 {d : Nat} {σ : ib_H} {Q : ib_O → Prop} {l1 : Nat} {s0 : Nat} (hF : jb_F σ) (hl1 : l1 ≠ 0 → jb_rc σ l1) (hs0 : s0 ≠ 0 → jb_rc σ s0)
    (h : (¬ s0 = 0 → Q (.inl (some (jb_v (jb_i σ s0 6))), σ)) ∧ (s0 = 0 → (l1 ≠ 0) ∧ (Q (.inl (some (jb_v (jb_i σ l1 6))), σ)))) :
    jb_w d 94 19 [some (.ref 81), some (.ref l1), none] [(.ref s0)] σ Q := by
  refine jw_goto jM94 jq94_19 ?_
  refine jaS2 (p := 24) rfl jM94 jq94_23 ?_
  refine jaL2 (p := 25) rfl jM94 jq94_24 ?_
  refine jw_ifnonnull (p := 28) rfl jM94 jq94_25 (fun c1 => ?_) (fun c1 => ?_)
  · have h1 := h.1 c1
    refine jaL2 (p := 36) rfl jM94 jq94_35 ?_
    refine jw_getI (p := 39) (i := 6) rfl jM94 jq94_36 rfl (hs0 c1).ob jn_3_6 ?_
    exact jw_iret jM94 jq94_39 (fun z => absurd z (by decide)) h1
  · have h1 := h.2 c1
    refine jaL1 (p := 29) rfl jM94 jq94_28 ?_
    obtain ⟨c2, h2⟩ := h1
    refine jw_getI (p := 32) (i := 6) rfl jM94 jq94_29 rfl (hl1 c2).ob jn_3_6 ?_
    refine jw_goto jM94 jq94_32 ?_
    exact jw_iret jM94 jq94_39 (fun z => absurd z (by decide)) h2
-- 95 PageLoom$Undoing.tellUndo(LPageLoom$LogRecord;)Z
theorem jk95_0 {d : Nat} {σ : ib_H} {Q : ib_O → Prop} {l1 : Nat} (hF : jb_F σ) (hl1 : l1 ≠ 0 → jb_rc σ l1)
    (h : (l1 ≠ 0) ∧ (jb_w d 20 0 [some (.ref 63), some (jb_v 1), some (jb_v (jb_i σ l1 2)), none] [] σ (jb_k (d + 1) 95 9 [some (.ref 81), some (.ref l1), none] [] Q))) :
    jb_w (d + 1) 95 0 [some (.ref 81), some (.ref l1), none] [] σ Q := by
  refine jaL0 (p := 1) rfl jM95 jq95_0 ?_
  refine jw_getP (p := 4) (i := 1) (q := 63) rfl jM95 jq95_1 rfl (jo_81 hF) je_8_1 (jp_81_1 hF) ?_
  refine jw_iconst (p := 5) rfl jM95 jq95_4 ?_
  refine jaL1 (p := 6) rfl jM95 jq95_5 ?_
  obtain ⟨c1, h1⟩ := h
  refine jw_getI (p := 9) (i := 2) rfl jM95 jq95_6 rfl (hl1 c1).ob jn_3_2 ?_
  refine jw_callV [(jb_v 1), (jb_v (jb_i σ l1 2))] jM95 jq95_9 rfl rfl (jo_63 hF) rfl jM20 rfl rfl ?_
  exact h1
theorem jk95_12 {d : Nat} {σ : ib_H} {Q : ib_O → Prop} {l1 : Nat} {s0 : Nat} (hF : jb_F σ) (hl1 : l1 ≠ 0 → jb_rc σ l1) (hs0 : s0 ≠ 0 → jb_rc σ s0)
    (h : (¬ s0 = 0 → (l1 ≠ 0) ∧ (jb_w d 70 0 [some (.ref 79)] [] (jb_si (jb_si (jb_si σ s0 3 (jb_i σ l1 3)) s0 5 (jb_i (jb_si σ s0 3 (jb_i σ l1 3)) l1 4)) s0 7 (jb_i (jb_si (jb_si σ s0 3 (jb_i σ l1 3)) s0 5 (jb_i (jb_si σ s0 3 (jb_i σ l1 3)) l1 4)) l1 0)) (jb_k (d + 1) 95 48 [some (.ref 81), some (.ref l1), some (.ref s0)] [(.ref s0)] Q))) ∧ (s0 = 0 → Q (.inl (some (jb_v 0)), σ))) :
    jb_w (d + 1) 95 12 [some (.ref 81), some (.ref l1), none] [(.ref s0)] σ Q := by
  refine jaS2 (p := 13) rfl jM95 jq95_12 ?_
  refine jaL2 (p := 14) rfl jM95 jq95_13 ?_
  refine jw_ifnonnull (p := 17) rfl jM95 jq95_14 (fun c1 => ?_) (fun c1 => ?_)
  · have h1 := h.1 c1
    refine jaL2 (p := 20) rfl jM95 jq95_19 ?_
    refine jaL1 (p := 21) rfl jM95 jq95_20 ?_
    obtain ⟨c2, h2⟩ := h1
    refine jw_getI (p := 24) (i := 3) rfl jM95 jq95_21 rfl (hl1 c2).ob jn_3_3 ?_
    refine jw_putI (p := 27) (i := 3) rfl jM95 jq95_24 rfl (hs0 c1).ob (Or.inl jz_3_3) ?_
    refine jaL2 (p := 28) rfl jM95 jq95_27 ?_
    refine jaL1 (p := 29) rfl jM95 jq95_28 ?_
    refine jw_getI (p := 32) (i := 4) rfl jM95 jq95_29 rfl (hl1 c2).ob jn_3_4 ?_
    refine jw_putI (p := 35) (i := 5) rfl jM95 jq95_32 rfl (hs0 c1).ob (Or.inl jz_3_5) ?_
    refine jaL2 (p := 36) rfl jM95 jq95_35 ?_
    refine jaL1 (p := 37) rfl jM95 jq95_36 ?_
    refine jw_getI (p := 40) (i := 0) rfl jM95 jq95_37 rfl (hl1 c2).ob jn_3_0 ?_
    refine jw_putI (p := 43) (i := 7) rfl jM95 jq95_40 rfl (hs0 c1).ob (Or.inl jz_3_7) ?_
    refine jaL2 (p := 44) rfl jM95 jq95_43 ?_
    refine jaL0 (p := 45) rfl jM95 jq95_44 ?_
    refine jw_getP (p := 48) (i := 0) (q := 79) rfl jM95 jq95_45 rfl (jo_81 hF) je_8_0 (jp_81_0 hF) ?_
    refine jw_callV [] jM95 jq95_48 rfl rfl (jo_79 hF) rfl jM70 rfl rfl ?_
    exact h2
  · have h1 := h.2 c1
    refine jw_iconst (p := 18) rfl jM95 jq95_17 ?_
    exact jw_iret jM95 jq95_18 (fun _ => Or.inl rfl) h1
theorem jk95_51 {d : Nat} {σ : ib_H} {Q : ib_O → Prop} {l1 : Nat} {l2 : Nat} {s0 : Nat} {s1 : Int} (hF : jb_F σ) (hl1 : l1 ≠ 0 → jb_rc σ l1) (hl2 : l2 ≠ 0 → jb_rc σ l2) (hs0 : s0 ≠ 0 → jb_rc σ s0) (hs1 : jb_r s1)
    (h : (s0 ≠ 0) ∧ (jb_w d 26 0 [some (.ref s0), some (jb_v s1)] [] σ (jb_k (d + 1) 95 51 [some (.ref 81), some (.ref l1), some (.ref l2)] [] Q))) :
    jb_w (d + 1) 95 51 [some (.ref 81), some (.ref l1), some (.ref l2)] [(jb_v s1), (.ref s0)] σ Q := by
  obtain ⟨c1, h1⟩ := h
  refine jw_callV [(jb_v s1)] jM95 jq95_51 rfl rfl (hs0 c1).ob rfl jM26 rfl rfl ?_
  exact h1
theorem jk95_54 {d : Nat} {σ : ib_H} {Q : ib_O → Prop} {l1 : Nat} {l2 : Nat} (hF : jb_F σ) (hl1 : l1 ≠ 0 → jb_rc σ l1) (hl2 : l2 ≠ 0 → jb_rc σ l2)
    (h : Q (.inl (some (jb_v 1)), σ)) :
    jb_w d 95 54 [some (.ref 81), some (.ref l1), some (.ref l2)] [] σ Q := by
  refine jw_iconst (p := 55) rfl jM95 jq95_54 ?_
  exact jw_iret jM95 jq95_55 (fun _ => Or.inr rfl) h
-- 96 PageLoom$Undoing.end(I)Z
theorem jk96_0 {d : Nat} {σ : ib_H} {Q : ib_O → Prop} {l1 : Int} (hF : jb_F σ) (hl1 : jb_r l1)
    (h : jb_w d 20 0 [some (.ref 63), some (jb_v 3), some (jb_v l1), none] [] σ (jb_k (d + 1) 96 6 [some (.ref 81), some (jb_v l1)] [] Q)) :
    jb_w (d + 1) 96 0 [some (.ref 81), some (jb_v l1)] [] σ Q := by
  refine jaL0 (p := 1) rfl jM96 jq96_0 ?_
  refine jw_getP (p := 4) (i := 1) (q := 63) rfl jM96 jq96_1 rfl (jo_81 hF) je_8_1 (jp_81_1 hF) ?_
  refine jw_iconst (p := 5) rfl jM96 jq96_4 ?_
  refine jiL1 (p := 6) rfl jM96 jq96_5 ?_
  refine jw_callV [(jb_v 3), (jb_v l1)] jM96 jq96_6 rfl rfl (jo_63 hF) rfl jM20 rfl rfl ?_
  exact h
theorem jk96_9 {d : Nat} {σ : ib_H} {Q : ib_O → Prop} {l1 : Int} {s0 : Nat} (hF : jb_F σ) (hl1 : jb_r l1) (hs0 : s0 ≠ 0 → jb_rc σ s0)
    (h : (¬ s0 = 0 → jb_w d 63 0 [some (.ref 57), some (jb_v l1), none] [] σ (jb_k (d + 1) 96 19 [some (.ref 81), some (jb_v l1)] [] Q)) ∧ (s0 = 0 → Q (.inl (some (jb_v 0)), σ))) :
    jb_w (d + 1) 96 9 [some (.ref 81), some (jb_v l1)] [(.ref s0)] σ Q := by
  refine jw_ifnonnull (p := 12) rfl jM96 jq96_9 (fun c1 => ?_) (fun c1 => ?_)
  · have h1 := h.1 c1
    refine jaL0 (p := 15) rfl jM96 jq96_14 ?_
    refine jw_getP (p := 18) (i := 2) (q := 57) rfl jM96 jq96_15 rfl (jo_81 hF) je_8_2 (jp_81_2 hF) ?_
    refine jiL1 (p := 19) rfl jM96 jq96_18 ?_
    refine jw_callV [(jb_v l1)] jM96 jq96_19 rfl rfl (jo_57 hF) rfl jM63 rfl rfl ?_
    exact h1
  · have h1 := h.2 c1
    refine jw_iconst (p := 13) rfl jM96 jq96_12 ?_
    exact jw_iret jM96 jq96_13 (fun _ => Or.inl rfl) h1
theorem jk96_22 {d : Nat} {σ : ib_H} {Q : ib_O → Prop} {l1 : Int} (hF : jb_F σ) (hl1 : jb_r l1)
    (h : Q (.inl (some (jb_v 1)), σ)) :
    jb_w d 96 22 [some (.ref 81), some (jb_v l1)] [] σ Q := by
  refine jw_iconst (p := 23) rfl jM96 jq96_22 ?_
  exact jw_iret jM96 jq96_23 (fun _ => Or.inr rfl) h
-- 51 PageLoom$Recovery.begin()V
theorem jk51_0 {d : Nat} {σ : ib_H} {Q : ib_O → Prop}  (hF : jb_F σ) 
    (h : jb_w d 51 2 [some (.ref 83), some (jb_v 0)] [] σ Q) :
    jb_w d 51 0 [some (.ref 83), none] [] σ Q := by
  refine jw_iconst (p := 1) rfl jM51 jq51_0 ?_
  refine jiS1 (p := 2) rfl jM51 jq51_1 ?_
  exact h
theorem jk51_2 {d : Nat} {σ : ib_H} {Q : ib_O → Prop} {l1 : Int} (hF : jb_F σ) (hl1 : jb_r l1)
    (h : (4 ≤ l1 → Q (.inl none, σ)) ∧ (¬ (4 ≤ l1) → (0 ≤ l1 ∧ l1 < 4) ∧ (jb_w d 51 2 [some (.ref 83), some (jb_v (l1 + 1))] [] (jb_si σ 85 l1 0) Q))) :
    jb_w d 51 2 [some (.ref 83), some (jb_v l1)] [] σ Q := by
  refine jiL1 (p := 3) rfl jM51 jq51_2 ?_
  refine jw_iconst (p := 4) rfl jM51 jq51_3 ?_
  refine jw_ic (p := 7) rfl jM51 jq51_4 (jc_ge hl1 (jb_rn rfl)) (fun c1 => ?_) (fun c1 => ?_)
  · have h1 := h.1 c1
    exact jw_vret jM51 jq51_20 h1
  · have h1 := h.2 c1
    refine jaL0 (p := 8) rfl jM51 jq51_7 ?_
    refine jw_getP (p := 11) (i := 6) (q := 85) rfl jM51 jq51_8 rfl (jo_83 hF) je_5_6 (jp_83_6 hF) ?_
    refine jiL1 (p := 12) rfl jM51 jq51_11 ?_
    refine jw_iconst (p := 13) rfl jM51 jq51_12 ?_
    obtain ⟨c2, h2⟩ := h1
    refine jw_iast (p := 14) rfl jM51 jq51_13 (ja_85 hF) c2.1 c2.2 ?_
    refine jiI1 (p := 17) rfl jM51 jq51_14 ?_
    refine jw_goto jM51 jq51_17 ?_
    exact h2
-- 52 PageLoom$Recovery.mend()Z
theorem jk52_0 {d : Nat} {σ : ib_H} {Q : ib_O → Prop}  (hF : jb_F σ) 
    (h : jb_w d 16 0 [some (.ref 3)] [] σ (jb_k (d + 1) 52 4 [some (.ref 83)] [] Q)) :
    jb_w (d + 1) 52 0 [some (.ref 83)] [] σ Q := by
  refine jaL0 (p := 1) rfl jM52 jq52_0 ?_
  refine jw_getP (p := 4) (i := 0) (q := 3) rfl jM52 jq52_1 rfl (jo_83 hF) je_5_0 (jp_83_0 hF) ?_
  refine jw_callV [] jM52 jq52_4 rfl rfl (jo_3 hF) rfl jM16 rfl rfl ?_
  exact h
theorem jk52_7 {d : Nat} {σ : ib_H} {Q : ib_O → Prop} {s0 : Int} (hF : jb_F σ) (hs0 : jb_r s0)
    (h : (¬ s0 = 0 → jb_w d 17 0 [some (.ref 3), none] [] σ (jb_k (d + 1) 52 21 [some (.ref 83)] [(jb_v 3), (.ref 85)] Q)) ∧ (¬ (¬ s0 = 0) → Q (.inl (some (jb_v 1)), σ))) :
    jb_w (d + 1) 52 7 [some (.ref 83)] [(jb_v s0)] σ Q := by
  refine jw_if (p := 10) rfl jM52 jq52_7 (jc_ne hs0 jb_r0) (fun c1 => ?_) (fun c1 => ?_)
  · have h1 := h.1 c1
    refine jaL0 (p := 13) rfl jM52 jq52_12 ?_
    refine jw_getP (p := 16) (i := 6) (q := 85) rfl jM52 jq52_13 rfl (jo_83 hF) je_5_6 (jp_83_6 hF) ?_
    refine jw_iconst (p := 17) rfl jM52 jq52_16 ?_
    refine jaL0 (p := 18) rfl jM52 jq52_17 ?_
    refine jw_getP (p := 21) (i := 0) (q := 3) rfl jM52 jq52_18 rfl (jo_83 hF) je_5_0 (jp_83_0 hF) ?_
    refine jw_callV [] jM52 jq52_21 rfl rfl (jo_3 hF) rfl jM17 rfl rfl ?_
    exact h1
  · have h1 := h.2 c1
    refine jw_iconst (p := 11) rfl jM52 jq52_10 ?_
    exact jw_iret jM52 jq52_11 (fun _ => Or.inr rfl) h1
theorem jk52_24 {d : Nat} {σ : ib_H} {Q : ib_O → Prop} {s1 : Int} {s2 : Int} (hF : jb_F σ) (hs1 : jb_r s1) (hs2 : jb_r s2)
    (h : (0 ≤ s1 ∧ s1 < 4) ∧ ((¬ jb_i (jb_si σ 85 s1 s2) 85 3 = 2 → Q (.inl (some (jb_v 0)), jb_si σ 85 s1 s2)) ∧ (¬ (¬ jb_i (jb_si σ 85 s1 s2) 85 3 = 2) → Q (.inl (some (jb_v 1)), jb_si σ 85 s1 s2)))) :
    jb_w d 52 24 [some (.ref 83)] [(jb_v s2), (jb_v s1), (.ref 85)] σ Q := by
  obtain ⟨c1, h1⟩ := h
  refine jw_iast (p := 25) rfl jM52 jq52_24 (ja_85 hF) c1.1 c1.2 ?_
  refine jaL0 (p := 26) rfl jM52 jq52_25 ?_
  refine jw_getP (p := 29) (i := 6) (q := 85) rfl jM52 jq52_26 rfl (jo_83 hF) je_5_6 (jp_83_6 hF) ?_
  refine jw_iconst (p := 30) rfl jM52 jq52_29 ?_
  refine jw_iald (p := 31) rfl jM52 jq52_30 (ja_85 hF) (by decide) (by decide) ?_
  refine jw_iconst (p := 32) rfl jM52 jq52_31 ?_
  refine jw_ic (p := 35) rfl jM52 jq52_32 (jc_ne (jb_r_i _ _ _) (jb_rn rfl)) (fun c2 => ?_) (fun c2 => ?_)
  · have h2 := h1.1 c2
    refine jw_iconst (p := 40) rfl jM52 jq52_39 ?_
    exact jw_iret jM52 jq52_40 (fun _ => Or.inl rfl) h2
  · have h2 := h1.2 c2
    refine jw_iconst (p := 36) rfl jM52 jq52_35 ?_
    refine jw_goto jM52 jq52_36 ?_
    exact jw_iret jM52 jq52_40 (fun _ => Or.inr rfl) h2
-- 53 PageLoom$Recovery.readLog()V
theorem jk53_0 {d : Nat} {σ : ib_H} {Q : ib_O → Prop}  (hF : jb_F σ) 
    (h : jb_w d 53 2 [some (.ref 83), some (jb_v 0), none, none, none] [] σ Q) :
    jb_w d 53 0 [some (.ref 83), none, none, none, none] [] σ Q := by
  refine jw_iconst (p := 1) rfl jM53 jq53_0 ?_
  refine jiS1 (p := 2) rfl jM53 jq53_1 ?_
  exact h
theorem jk53_2 {d : Nat} {σ : ib_H} {Q : ib_O → Prop} {l1 : Int} (hF : jb_F σ) (hl1 : jb_r l1)
    (h : (24 ≤ l1 → jb_w d 64 0 [some (.ref 57), none] [] σ (jb_k (d + 1) 53 25 [some (.ref 83), some (jb_v l1), none, none, none] [] Q)) ∧ (¬ (24 ≤ l1) → (0 ≤ l1 ∧ l1 < 24) ∧ (jb_w (d + 1) 53 2 [some (.ref 83), some (jb_v (l1 + 1)), none, none, none] [] (jb_si σ 84 l1 0) Q))) :
    jb_w (d + 1) 53 2 [some (.ref 83), some (jb_v l1), none, none, none] [] σ Q := by
  refine jiL1 (p := 3) rfl jM53 jq53_2 ?_
  refine jw_bipush (p := 5) rfl jM53 jq53_3 (by decide) ?_
  refine jw_ic (p := 8) rfl jM53 jq53_5 (jc_ge hl1 (jb_rn rfl)) (fun c1 => ?_) (fun c1 => ?_)
  · have h1 := h.1 c1
    refine jaL0 (p := 22) rfl jM53 jq53_21 ?_
    refine jw_getP (p := 25) (i := 4) (q := 57) rfl jM53 jq53_22 rfl (jo_83 hF) je_5_4 (jp_83_4 hF) ?_
    refine jw_callV [] jM53 jq53_25 rfl rfl (jo_57 hF) rfl jM64 rfl rfl ?_
    exact h1
  · have h1 := h.2 c1
    refine jaL0 (p := 9) rfl jM53 jq53_8 ?_
    refine jw_getP (p := 12) (i := 5) (q := 84) rfl jM53 jq53_9 rfl (jo_83 hF) je_5_5 (jp_83_5 hF) ?_
    refine jiL1 (p := 13) rfl jM53 jq53_12 ?_
    refine jw_iconst (p := 14) rfl jM53 jq53_13 ?_
    obtain ⟨c2, h2⟩ := h1
    refine jw_iast (p := 15) rfl jM53 jq53_14 (ja_84 hF) c2.1 c2.2 ?_
    refine jiI1 (p := 18) rfl jM53 jq53_15 ?_
    refine jw_goto jM53 jq53_18 ?_
    exact h2
theorem jk53_28 {d : Nat} {σ : ib_H} {Q : ib_O → Prop} {l1 : Int} (hF : jb_F σ) (hl1 : jb_r l1)
    (h : jb_w d 54 0 [some (.ref 83), none, none] [] σ (jb_k (d + 1) 53 29 [some (.ref 83), some (jb_v l1), none, none, none] [] Q)) :
    jb_w (d + 1) 53 28 [some (.ref 83), some (jb_v l1), none, none, none] [] σ Q := by
  refine jaL0 (p := 29) rfl jM53 jq53_28 ?_
  refine jw_callV [] jM53 jq53_29 rfl rfl (jo_83 hF) rfl jM54 rfl rfl ?_
  exact h
theorem jk53_32 {d : Nat} {σ : ib_H} {Q : ib_O → Prop} {l1 : Int} {s0 : Int} (hF : jb_F σ) (hl1 : jb_r l1) (hs0 : jb_r s0)
    (h : jb_w d 19 0 [some (.ref 63), some (jb_v s0)] [] σ (jb_k (d + 1) 53 38 [some (.ref 83), some (jb_v s0), none, none, none] [] Q)) :
    jb_w (d + 1) 53 32 [some (.ref 83), some (jb_v l1), none, none, none] [(jb_v s0)] σ Q := by
  refine jiS1 (p := 33) rfl jM53 jq53_32 ?_
  refine jaL0 (p := 34) rfl jM53 jq53_33 ?_
  refine jw_getP (p := 37) (i := 1) (q := 63) rfl jM53 jq53_34 rfl (jo_83 hF) je_5_1 (jp_83_1 hF) ?_
  refine jiL1 (p := 38) rfl jM53 jq53_37 ?_
  refine jw_callV [(jb_v s0)] jM53 jq53_38 rfl rfl (jo_63 hF) rfl jM19 rfl rfl ?_
  exact h
theorem jk53_41 {d : Nat} {σ : ib_H} {Q : ib_O → Prop} {l1 : Int} {s0 : Nat} (hF : jb_F σ) (hl1 : jb_r l1) (hs0 : s0 ≠ 0 → jb_rc σ s0)
    (h : (s0 = 0 → jb_w (d + 1) 53 61 [some (.ref 83), some (jb_v l1), some (.ref s0), some (jb_v l1), none] [] σ Q) ∧ (¬ (s0 = 0) → (¬ jb_i σ s0 1 = 4 → jb_w (d + 1) 53 61 [some (.ref 83), some (jb_v l1), some (.ref s0), some (jb_v l1), none] [] σ Q) ∧ (¬ (¬ jb_i σ s0 1 = 4) → jb_w d 55 0 [some (.ref 83), some (.ref s0), none] [] σ (jb_k (d + 1) 53 56 [some (.ref 83), some (jb_v l1), some (.ref s0), none, none] [] Q)))) :
    jb_w (d + 1) 53 41 [some (.ref 83), some (jb_v l1), none, none, none] [(.ref s0)] σ Q := by
  refine jaS2 (p := 42) rfl jM53 jq53_41 ?_
  refine jaL2 (p := 43) rfl jM53 jq53_42 ?_
  refine jw_ifnull (p := 46) rfl jM53 jq53_43 (fun c1 => ?_) (fun c1 => ?_)
  · have h1 := h.1 c1
    refine jiL1 (p := 60) rfl jM53 jq53_59 ?_
    refine jiS3 (p := 61) rfl jM53 jq53_60 ?_
    exact h1
  · have h1 := h.2 c1
    refine jaL2 (p := 47) rfl jM53 jq53_46 ?_
    refine jw_getI (p := 50) (i := 1) rfl jM53 jq53_47 rfl (hs0 c1).ob jn_3_1 ?_
    refine jw_iconst (p := 51) rfl jM53 jq53_50 ?_
    refine jw_ic (p := 54) rfl jM53 jq53_51 (jc_ne (jb_r_i _ _ _) (jb_rn rfl)) (fun c2 => ?_) (fun c2 => ?_)
    · have h2 := h1.1 c2
      refine jiL1 (p := 60) rfl jM53 jq53_59 ?_
      refine jiS3 (p := 61) rfl jM53 jq53_60 ?_
      exact h2
    · have h2 := h1.2 c2
      refine jaL0 (p := 55) rfl jM53 jq53_54 ?_
      refine jaL2 (p := 56) rfl jM53 jq53_55 ?_
      refine jw_callV [(.ref s0)] jM53 jq53_56 rfl rfl (jo_83 hF) rfl jM55 rfl rfl ?_
      exact h2
theorem jk53_61 {d : Nat} {σ : ib_H} {Q : ib_O → Prop} {l1 : Int} {l2 : Nat} {l3 : Int} (hF : jb_F σ) (hl1 : jb_r l1) (hl2 : l2 ≠ 0 → jb_rc σ l2) (hl3 : jb_r l3)
    (h : (jb_i σ 63 4 < l3 → Q (.inl none, σ)) ∧ (¬ (jb_i σ 63 4 < l3) → jb_w d 19 0 [some (.ref 63), some (jb_v l3)] [] σ (jb_k (d + 1) 53 77 [some (.ref 83), some (jb_v l1), some (.ref l2), some (jb_v l3), none] [] Q))) :
    jb_w (d + 1) 53 61 [some (.ref 83), some (jb_v l1), some (.ref l2), some (jb_v l3), none] [] σ Q := by
  refine jiL3 (p := 62) rfl jM53 jq53_61 ?_
  refine jaL0 (p := 63) rfl jM53 jq53_62 ?_
  refine jw_getP (p := 66) (i := 1) (q := 63) rfl jM53 jq53_63 rfl (jo_83 hF) je_5_1 (jp_83_1 hF) ?_
  refine jw_getI (p := 69) (i := 4) rfl jM53 jq53_66 rfl (jo_63 hF) jn_2_4 ?_
  refine jw_ic (p := 72) rfl jM53 jq53_69 (jc_gt hl3 (jb_r_i _ _ _)) (fun c1 => ?_) (fun c1 => ?_)
  · have h1 := h.1 c1
    exact jw_vret jM53 jq53_110 h1
  · have h1 := h.2 c1
    refine jaL0 (p := 73) rfl jM53 jq53_72 ?_
    refine jw_getP (p := 76) (i := 1) (q := 63) rfl jM53 jq53_73 rfl (jo_83 hF) je_5_1 (jp_83_1 hF) ?_
    refine jiL3 (p := 77) rfl jM53 jq53_76 ?_
    refine jw_callV [(jb_v l3)] jM53 jq53_77 rfl rfl (jo_63 hF) rfl jM19 rfl rfl ?_
    exact h1
theorem jk53_59 {d : Nat} {σ : ib_H} {Q : ib_O → Prop} {l1 : Int} {l2 : Nat} (hF : jb_F σ) (hl1 : jb_r l1) (hl2 : l2 ≠ 0 → jb_rc σ l2)
    (h : jb_w d 53 61 [some (.ref 83), some (jb_v l1), some (.ref l2), some (jb_v l1), none] [] σ Q) :
    jb_w d 53 59 [some (.ref 83), some (jb_v l1), some (.ref l2), none, none] [] σ Q := by
  refine jiL1 (p := 60) rfl jM53 jq53_59 ?_
  refine jiS3 (p := 61) rfl jM53 jq53_60 ?_
  exact h
theorem jk53_80 {d : Nat} {σ : ib_H} {Q : ib_O → Prop} {l1 : Int} {l2 : Nat} {l3 : Int} {s0 : Nat} (hF : jb_F σ) (hl1 : jb_r l1) (hl2 : l2 ≠ 0 → jb_rc σ l2) (hl3 : jb_r l3) (hs0 : s0 ≠ 0 → jb_rc σ s0)
    (h : (s0 = 0 → jb_w (d + 1) 53 61 [some (.ref 83), some (jb_v l1), some (.ref l2), some (jb_v (l3 + 1)), some (.ref s0)] [] σ Q) ∧ (¬ (s0 = 0) → jb_w d 56 0 [some (.ref 83), some (.ref s0), some (jb_v l3), none, none] [] σ (jb_k (d + 1) 53 91 [some (.ref 83), some (jb_v l1), some (.ref l2), some (jb_v l3), some (.ref s0)] [] Q))) :
    jb_w (d + 1) 53 80 [some (.ref 83), some (jb_v l1), some (.ref l2), some (jb_v l3), none] [(.ref s0)] σ Q := by
  refine jaS4 (p := 82) rfl jM53 jq53_80 ?_
  refine jaL4 (p := 84) rfl jM53 jq53_82 ?_
  refine jw_ifnull (p := 87) rfl jM53 jq53_84 (fun c1 => ?_) (fun c1 => ?_)
  · have h1 := h.1 c1
    refine jiI3 (p := 107) rfl jM53 jq53_104 ?_
    refine jw_goto jM53 jq53_107 ?_
    exact h1
  · have h1 := h.2 c1
    refine jaL0 (p := 88) rfl jM53 jq53_87 ?_
    refine jaL4 (p := 90) rfl jM53 jq53_88 ?_
    refine jiL3 (p := 91) rfl jM53 jq53_90 ?_
    refine jw_callV [(.ref s0), (jb_v l3)] jM53 jq53_91 rfl rfl (jo_83 hF) rfl jM56 rfl rfl ?_
    exact h1
theorem jk53_61_2 {d : Nat} {σ : ib_H} {Q : ib_O → Prop} {l1 : Int} {l2 : Nat} {l3 : Int} {l4 : Nat} (hF : jb_F σ) (hl1 : jb_r l1) (hl2 : l2 ≠ 0 → jb_rc σ l2) (hl3 : jb_r l3) (hl4 : l4 ≠ 0 → jb_rc σ l4)
    (h : (jb_i σ 63 4 < l3 → Q (.inl none, σ)) ∧ (¬ (jb_i σ 63 4 < l3) → jb_w d 19 0 [some (.ref 63), some (jb_v l3)] [] σ (jb_k (d + 1) 53 77 [some (.ref 83), some (jb_v l1), some (.ref l2), some (jb_v l3), some (.ref l4)] [] Q))) :
    jb_w (d + 1) 53 61 [some (.ref 83), some (jb_v l1), some (.ref l2), some (jb_v l3), some (.ref l4)] [] σ Q := by
  refine jiL3 (p := 62) rfl jM53 jq53_61 ?_
  refine jaL0 (p := 63) rfl jM53 jq53_62 ?_
  refine jw_getP (p := 66) (i := 1) (q := 63) rfl jM53 jq53_63 rfl (jo_83 hF) je_5_1 (jp_83_1 hF) ?_
  refine jw_getI (p := 69) (i := 4) rfl jM53 jq53_66 rfl (jo_63 hF) jn_2_4 ?_
  refine jw_ic (p := 72) rfl jM53 jq53_69 (jc_gt hl3 (jb_r_i _ _ _)) (fun c1 => ?_) (fun c1 => ?_)
  · have h1 := h.1 c1
    exact jw_vret jM53 jq53_110 h1
  · have h1 := h.2 c1
    refine jaL0 (p := 73) rfl jM53 jq53_72 ?_
    refine jw_getP (p := 76) (i := 1) (q := 63) rfl jM53 jq53_73 rfl (jo_83 hF) je_5_1 (jp_83_1 hF) ?_
    refine jiL3 (p := 77) rfl jM53 jq53_76 ?_
    refine jw_callV [(jb_v l3)] jM53 jq53_77 rfl rfl (jo_63 hF) rfl jM19 rfl rfl ?_
    exact h1
theorem jk53_94 {d : Nat} {σ : ib_H} {Q : ib_O → Prop} {l1 : Int} {l2 : Nat} {l3 : Int} {l4 : Nat} (hF : jb_F σ) (hl1 : jb_r l1) (hl2 : l2 ≠ 0 → jb_rc σ l2) (hl3 : jb_r l3) (hl4 : l4 ≠ 0 → jb_rc σ l4)
    (h : jb_w d 53 61 [some (.ref 83), some (jb_v l1), some (.ref l2), some (jb_v (l3 + 1)), some (.ref l4)] [] (jb_si σ 85 0 ((jb_i σ 85 0) + 1)) Q) :
    jb_w d 53 94 [some (.ref 83), some (jb_v l1), some (.ref l2), some (jb_v l3), some (.ref l4)] [] σ Q := by
  refine jaL0 (p := 95) rfl jM53 jq53_94 ?_
  refine jw_getP (p := 98) (i := 6) (q := 85) rfl jM53 jq53_95 rfl (jo_83 hF) je_5_6 (jp_83_6 hF) ?_
  refine jw_iconst (p := 99) rfl jM53 jq53_98 ?_
  refine jw_dup2 (p := 100) rfl jM53 jq53_99 ?_
  refine jw_iald (p := 101) rfl jM53 jq53_100 (ja_85 hF) (by decide) (by decide) ?_
  refine jw_iconst (p := 102) rfl jM53 jq53_101 ?_
  refine jw_iadd (p := 103) rfl jM53 jq53_102 ?_
  refine jw_iast (p := 104) rfl jM53 jq53_103 (ja_85 hF) (by decide) (by decide) ?_
  refine jiI3 (p := 107) rfl jM53 jq53_104 ?_
  refine jw_goto jM53 jq53_107 ?_
  exact h
theorem jk53_80_2 {d : Nat} {σ : ib_H} {Q : ib_O → Prop} {l1 : Int} {l2 : Nat} {l3 : Int} {l4 : Nat} {s0 : Nat} (hF : jb_F σ) (hl1 : jb_r l1) (hl2 : l2 ≠ 0 → jb_rc σ l2) (hl3 : jb_r l3) (hl4 : l4 ≠ 0 → jb_rc σ l4) (hs0 : s0 ≠ 0 → jb_rc σ s0)
    (h : (s0 = 0 → jb_w (d + 1) 53 61 [some (.ref 83), some (jb_v l1), some (.ref l2), some (jb_v (l3 + 1)), some (.ref s0)] [] σ Q) ∧ (¬ (s0 = 0) → jb_w d 56 0 [some (.ref 83), some (.ref s0), some (jb_v l3), none, none] [] σ (jb_k (d + 1) 53 91 [some (.ref 83), some (jb_v l1), some (.ref l2), some (jb_v l3), some (.ref s0)] [] Q))) :
    jb_w (d + 1) 53 80 [some (.ref 83), some (jb_v l1), some (.ref l2), some (jb_v l3), some (.ref l4)] [(.ref s0)] σ Q := by
  refine jaS4 (p := 82) rfl jM53 jq53_80 ?_
  refine jaL4 (p := 84) rfl jM53 jq53_82 ?_
  refine jw_ifnull (p := 87) rfl jM53 jq53_84 (fun c1 => ?_) (fun c1 => ?_)
  · have h1 := h.1 c1
    refine jiI3 (p := 107) rfl jM53 jq53_104 ?_
    refine jw_goto jM53 jq53_107 ?_
    exact h1
  · have h1 := h.2 c1
    refine jaL0 (p := 88) rfl jM53 jq53_87 ?_
    refine jaL4 (p := 90) rfl jM53 jq53_88 ?_
    refine jiL3 (p := 91) rfl jM53 jq53_90 ?_
    refine jw_callV [(.ref s0), (jb_v l3)] jM53 jq53_91 rfl rfl (jo_83 hF) rfl jM56 rfl rfl ?_
    exact h1
-- 54 PageLoom$Recovery.latestMark()I
theorem jk54_0 {d : Nat} {σ : ib_H} {Q : ib_O → Prop}  (hF : jb_F σ) 
    (h : jb_w d 54 8 [some (.ref 83), some (jb_v (jb_i σ 63 4)), none] [] σ Q) :
    jb_w d 54 0 [some (.ref 83), none, none] [] σ Q := by
  refine jaL0 (p := 1) rfl jM54 jq54_0 ?_
  refine jw_getP (p := 4) (i := 1) (q := 63) rfl jM54 jq54_1 rfl (jo_83 hF) je_5_1 (jp_83_1 hF) ?_
  refine jw_getI (p := 7) (i := 4) rfl jM54 jq54_4 rfl (jo_63 hF) jn_2_4 ?_
  refine jiS1 (p := 8) rfl jM54 jq54_7 ?_
  exact h
theorem jk54_8 {d : Nat} {σ : ib_H} {Q : ib_O → Prop} {l1 : Int} (hF : jb_F σ) (hl1 : jb_r l1)
    (h : (l1 ≤ 1 → Q (.inl (some (jb_v 1)), σ)) ∧ (¬ (l1 ≤ 1) → jb_w d 19 0 [some (.ref 63), some (jb_v l1)] [] σ (jb_k (d + 1) 54 18 [some (.ref 83), some (jb_v l1), none] [] Q))) :
    jb_w (d + 1) 54 8 [some (.ref 83), some (jb_v l1), none] [] σ Q := by
  refine jiL1 (p := 9) rfl jM54 jq54_8 ?_
  refine jw_iconst (p := 10) rfl jM54 jq54_9 ?_
  refine jw_ic (p := 13) rfl jM54 jq54_10 (jc_le hl1 (jb_rn rfl)) (fun c1 => ?_) (fun c1 => ?_)
  · have h1 := h.1 c1
    refine jw_iconst (p := 43) rfl jM54 jq54_42 ?_
    exact jw_iret jM54 jq54_43 (fun z => absurd z (by decide)) h1
  · have h1 := h.2 c1
    refine jaL0 (p := 14) rfl jM54 jq54_13 ?_
    refine jw_getP (p := 17) (i := 1) (q := 63) rfl jM54 jq54_14 rfl (jo_83 hF) je_5_1 (jp_83_1 hF) ?_
    refine jiL1 (p := 18) rfl jM54 jq54_17 ?_
    refine jw_callV [(jb_v l1)] jM54 jq54_18 rfl rfl (jo_63 hF) rfl jM19 rfl rfl ?_
    exact h1
theorem jk54_21 {d : Nat} {σ : ib_H} {Q : ib_O → Prop} {l1 : Int} {s0 : Nat} (hF : jb_F σ) (hl1 : jb_r l1) (hs0 : s0 ≠ 0 → jb_rc σ s0)
    (h : (s0 = 0 → jb_w d 54 8 [some (.ref 83), some (jb_v (l1 + (-1))), some (.ref s0)] [] σ Q) ∧ (¬ (s0 = 0) → (¬ jb_i σ s0 1 = 4 → jb_w d 54 8 [some (.ref 83), some (jb_v (l1 + (-1))), some (.ref s0)] [] σ Q) ∧ (¬ (¬ jb_i σ s0 1 = 4) → Q (.inl (some (jb_v l1)), σ)))) :
    jb_w d 54 21 [some (.ref 83), some (jb_v l1), none] [(.ref s0)] σ Q := by
  refine jaS2 (p := 22) rfl jM54 jq54_21 ?_
  refine jaL2 (p := 23) rfl jM54 jq54_22 ?_
  refine jw_ifnull (p := 26) rfl jM54 jq54_23 (fun c1 => ?_) (fun c1 => ?_)
  · have h1 := h.1 c1
    refine jiI1 (p := 39) rfl jM54 jq54_36 ?_
    refine jw_goto jM54 jq54_39 ?_
    exact h1
  · have h1 := h.2 c1
    refine jaL2 (p := 27) rfl jM54 jq54_26 ?_
    refine jw_getI (p := 30) (i := 1) rfl jM54 jq54_27 rfl (hs0 c1).ob jn_3_1 ?_
    refine jw_iconst (p := 31) rfl jM54 jq54_30 ?_
    refine jw_ic (p := 34) rfl jM54 jq54_31 (jc_ne (jb_r_i _ _ _) (jb_rn rfl)) (fun c2 => ?_) (fun c2 => ?_)
    · have h2 := h1.1 c2
      refine jiI1 (p := 39) rfl jM54 jq54_36 ?_
      refine jw_goto jM54 jq54_39 ?_
      exact h2
    · have h2 := h1.2 c2
      refine jiL1 (p := 35) rfl jM54 jq54_34 ?_
      exact jw_iret jM54 jq54_35 (fun z => absurd z (by decide)) h2
theorem jk54_8_2 {d : Nat} {σ : ib_H} {Q : ib_O → Prop} {l1 : Int} {l2 : Nat} (hF : jb_F σ) (hl1 : jb_r l1) (hl2 : l2 ≠ 0 → jb_rc σ l2)
    (h : (l1 ≤ 1 → Q (.inl (some (jb_v 1)), σ)) ∧ (¬ (l1 ≤ 1) → jb_w d 19 0 [some (.ref 63), some (jb_v l1)] [] σ (jb_k (d + 1) 54 18 [some (.ref 83), some (jb_v l1), some (.ref l2)] [] Q))) :
    jb_w (d + 1) 54 8 [some (.ref 83), some (jb_v l1), some (.ref l2)] [] σ Q := by
  refine jiL1 (p := 9) rfl jM54 jq54_8 ?_
  refine jw_iconst (p := 10) rfl jM54 jq54_9 ?_
  refine jw_ic (p := 13) rfl jM54 jq54_10 (jc_le hl1 (jb_rn rfl)) (fun c1 => ?_) (fun c1 => ?_)
  · have h1 := h.1 c1
    refine jw_iconst (p := 43) rfl jM54 jq54_42 ?_
    exact jw_iret jM54 jq54_43 (fun z => absurd z (by decide)) h1
  · have h1 := h.2 c1
    refine jaL0 (p := 14) rfl jM54 jq54_13 ?_
    refine jw_getP (p := 17) (i := 1) (q := 63) rfl jM54 jq54_14 rfl (jo_83 hF) je_5_1 (jp_83_1 hF) ?_
    refine jiL1 (p := 18) rfl jM54 jq54_17 ?_
    refine jw_callV [(jb_v l1)] jM54 jq54_18 rfl rfl (jo_63 hF) rfl jM19 rfl rfl ?_
    exact h1
theorem jk54_21_2 {d : Nat} {σ : ib_H} {Q : ib_O → Prop} {l1 : Int} {l2 : Nat} {s0 : Nat} (hF : jb_F σ) (hl1 : jb_r l1) (hl2 : l2 ≠ 0 → jb_rc σ l2) (hs0 : s0 ≠ 0 → jb_rc σ s0)
    (h : (s0 = 0 → jb_w d 54 8 [some (.ref 83), some (jb_v (l1 + (-1))), some (.ref s0)] [] σ Q) ∧ (¬ (s0 = 0) → (¬ jb_i σ s0 1 = 4 → jb_w d 54 8 [some (.ref 83), some (jb_v (l1 + (-1))), some (.ref s0)] [] σ Q) ∧ (¬ (¬ jb_i σ s0 1 = 4) → Q (.inl (some (jb_v l1)), σ)))) :
    jb_w d 54 21 [some (.ref 83), some (jb_v l1), some (.ref l2)] [(.ref s0)] σ Q := by
  refine jaS2 (p := 22) rfl jM54 jq54_21 ?_
  refine jaL2 (p := 23) rfl jM54 jq54_22 ?_
  refine jw_ifnull (p := 26) rfl jM54 jq54_23 (fun c1 => ?_) (fun c1 => ?_)
  · have h1 := h.1 c1
    refine jiI1 (p := 39) rfl jM54 jq54_36 ?_
    refine jw_goto jM54 jq54_39 ?_
    exact h1
  · have h1 := h.2 c1
    refine jaL2 (p := 27) rfl jM54 jq54_26 ?_
    refine jw_getI (p := 30) (i := 1) rfl jM54 jq54_27 rfl (hs0 c1).ob jn_3_1 ?_
    refine jw_iconst (p := 31) rfl jM54 jq54_30 ?_
    refine jw_ic (p := 34) rfl jM54 jq54_31 (jc_ne (jb_r_i _ _ _) (jb_rn rfl)) (fun c2 => ?_) (fun c2 => ?_)
    · have h2 := h1.1 c2
      refine jiI1 (p := 39) rfl jM54 jq54_36 ?_
      refine jw_goto jM54 jq54_39 ?_
      exact h2
    · have h2 := h1.2 c2
      refine jiL1 (p := 35) rfl jM54 jq54_34 ?_
      exact jw_iret jM54 jq54_35 (fun z => absurd z (by decide)) h2
-- 55 PageLoom$Recovery.believe(LPageLoom$LogRecord;)V
theorem jk55_0 {d : Nat} {σ : ib_H} {Q : ib_O → Prop} {l1 : Nat} (hF : jb_F σ) (hl1 : l1 ≠ 0 → jb_rc σ l1)
    (h : jb_w d 55 2 [some (.ref 83), some (.ref l1), some (jb_v 0)] [] σ Q) :
    jb_w d 55 0 [some (.ref 83), some (.ref l1), none] [] σ Q := by
  refine jw_iconst (p := 1) rfl jM55 jq55_0 ?_
  refine jiS2 (p := 2) rfl jM55 jq55_1 ?_
  exact h
theorem jk55_2 {d : Nat} {σ : ib_H} {Q : ib_O → Prop} {l1 : Nat} {l2 : Int} (hF : jb_F σ) (hl1 : l1 ≠ 0 → jb_rc σ l1) (hl2 : jb_r l2)
    (h : (4 ≤ l2 → jb_w (d + 1) 55 29 [some (.ref 83), some (.ref l1), some (jb_v 0)] [] σ Q) ∧ (¬ (4 ≤ l2) → (l1 ≠ 0) ∧ (jb_w d 28 0 [some (.ref l1), some (jb_v l2), none] [] σ (jb_k (d + 1) 55 17 [some (.ref 83), some (.ref l1), some (jb_v l2)] [(jb_v l2), (.ref 59)] Q)))) :
    jb_w (d + 1) 55 2 [some (.ref 83), some (.ref l1), some (jb_v l2)] [] σ Q := by
  refine jiL2 (p := 3) rfl jM55 jq55_2 ?_
  refine jw_iconst (p := 4) rfl jM55 jq55_3 ?_
  refine jw_ic (p := 7) rfl jM55 jq55_4 (jc_ge hl2 (jb_rn rfl)) (fun c1 => ?_) (fun c1 => ?_)
  · have h1 := h.1 c1
    refine jw_iconst (p := 28) rfl jM55 jq55_27 ?_
    refine jiS2 (p := 29) rfl jM55 jq55_28 ?_
    exact h1
  · have h1 := h.2 c1
    refine jaL0 (p := 8) rfl jM55 jq55_7 ?_
    refine jw_getP (p := 11) (i := 4) (q := 57) rfl jM55 jq55_8 rfl (jo_83 hF) je_5_4 (jp_83_4 hF) ?_
    refine jw_getP (p := 14) (i := 1) (q := 59) rfl jM55 jq55_11 rfl (jo_57 hF) je_6_1 (jp_57_1 hF) ?_
    refine jiL2 (p := 15) rfl jM55 jq55_14 ?_
    refine jaL1 (p := 16) rfl jM55 jq55_15 ?_
    refine jiL2 (p := 17) rfl jM55 jq55_16 ?_
    obtain ⟨c2, h2⟩ := h1
    refine jw_callV [(jb_v l2)] jM55 jq55_17 rfl rfl (hl1 c2).ob rfl jM28 rfl rfl ?_
    exact h2
theorem jk55_29 {d : Nat} {σ : ib_H} {Q : ib_O → Prop} {l1 : Nat} {l2 : Int} (hF : jb_F σ) (hl1 : l1 ≠ 0 → jb_rc σ l1) (hl2 : jb_r l2)
    (h : (24 ≤ l2 → Q (.inl none, σ)) ∧ (¬ (24 ≤ l2) → (l1 ≠ 0) ∧ (jb_w d 29 0 [some (.ref l1), some (jb_v l2)] [] σ (jb_k (d + 1) 55 42 [some (.ref 83), some (.ref l1), some (jb_v l2)] [(jb_v l2), (.ref 84)] Q)))) :
    jb_w (d + 1) 55 29 [some (.ref 83), some (.ref l1), some (jb_v l2)] [] σ Q := by
  refine jiL2 (p := 30) rfl jM55 jq55_29 ?_
  refine jw_bipush (p := 32) rfl jM55 jq55_30 (by decide) ?_
  refine jw_ic (p := 35) rfl jM55 jq55_32 (jc_ge hl2 (jb_rn rfl)) (fun c1 => ?_) (fun c1 => ?_)
  · have h1 := h.1 c1
    exact jw_vret jM55 jq55_52 h1
  · have h1 := h.2 c1
    refine jaL0 (p := 36) rfl jM55 jq55_35 ?_
    refine jw_getP (p := 39) (i := 5) (q := 84) rfl jM55 jq55_36 rfl (jo_83 hF) je_5_5 (jp_83_5 hF) ?_
    refine jiL2 (p := 40) rfl jM55 jq55_39 ?_
    refine jaL1 (p := 41) rfl jM55 jq55_40 ?_
    refine jiL2 (p := 42) rfl jM55 jq55_41 ?_
    obtain ⟨c2, h2⟩ := h1
    refine jw_callV [(jb_v l2)] jM55 jq55_42 rfl rfl (hl1 c2).ob rfl jM29 rfl rfl ?_
    exact h2
theorem jk55_20 {d : Nat} {σ : ib_H} {Q : ib_O → Prop} {l1 : Nat} {l2 : Int} {s1 : Int} {s2 : Int} (hF : jb_F σ) (hl1 : l1 ≠ 0 → jb_rc σ l1) (hl2 : jb_r l2) (hs1 : jb_r s1) (hs2 : jb_r s2)
    (h : (0 ≤ s1 ∧ s1 < 4) ∧ (jb_w d 55 2 [some (.ref 83), some (.ref l1), some (jb_v (l2 + 1))] [] (jb_si σ 59 s1 s2) Q)) :
    jb_w d 55 20 [some (.ref 83), some (.ref l1), some (jb_v l2)] [(jb_v s2), (jb_v s1), (.ref 59)] σ Q := by
  obtain ⟨c1, h1⟩ := h
  refine jw_iast (p := 21) rfl jM55 jq55_20 (ja_59 hF) c1.1 c1.2 ?_
  refine jiI2 (p := 24) rfl jM55 jq55_21 ?_
  refine jw_goto jM55 jq55_24 ?_
  exact h1
theorem jk55_45 {d : Nat} {σ : ib_H} {Q : ib_O → Prop} {l1 : Nat} {l2 : Int} {s1 : Int} {s2 : Int} (hF : jb_F σ) (hl1 : l1 ≠ 0 → jb_rc σ l1) (hl2 : jb_r l2) (hs1 : jb_r s1) (hs2 : jb_r s2)
    (h : (0 ≤ s1 ∧ s1 < 24) ∧ (jb_w d 55 29 [some (.ref 83), some (.ref l1), some (jb_v (l2 + 1))] [] (jb_si σ 84 s1 s2) Q)) :
    jb_w d 55 45 [some (.ref 83), some (.ref l1), some (jb_v l2)] [(jb_v s2), (jb_v s1), (.ref 84)] σ Q := by
  obtain ⟨c1, h1⟩ := h
  refine jw_iast (p := 46) rfl jM55 jq55_45 (ja_84 hF) c1.1 c1.2 ?_
  refine jiI2 (p := 49) rfl jM55 jq55_46 ?_
  refine jw_goto jM55 jq55_49 ?_
  exact h1
-- 56 PageLoom$Recovery.readRecord(LPageLoom$LogRecord;I)V
theorem jk56_0 {d : Nat} {σ : ib_H} {Q : ib_O → Prop} {l1 : Nat} {l2 : Int} (hF : jb_F σ) (hl1 : l1 ≠ 0 → jb_rc σ l1) (hl2 : jb_r l2)
    (h : (l1 ≠ 0) ∧ ((jb_i σ l1 2 < 0 → jb_w d 56 60 [some (.ref 83), some (.ref l1), some (jb_v l2), some (jb_v 0), none] [] σ Q) ∧ (¬ (jb_i σ l1 2 < 0) → (4 ≤ jb_i σ l1 2 → jb_w d 56 60 [some (.ref 83), some (.ref l1), some (jb_v l2), some (jb_v 0), none] [] σ Q) ∧ (¬ (4 ≤ jb_i σ l1 2) → (jb_i σ l1 1 = 2 → (0 ≤ (jb_i σ l1 2) ∧ (jb_i σ l1 2) < 4) ∧ (jb_w d 56 60 [some (.ref 83), some (.ref l1), some (jb_v l2), some (jb_v 0), none] [] (jb_si σ 59 (jb_i σ l1 2) 0) Q)) ∧ (¬ (jb_i σ l1 1 = 2) → (¬ jb_i σ l1 1 = 3 → (0 ≤ (jb_i σ l1 2) ∧ (jb_i σ l1 2) < 4) ∧ (jb_w d 56 60 [some (.ref 83), some (.ref l1), some (jb_v l2), some (jb_v 0), none] [] (jb_si σ 59 (jb_i σ l1 2) l2) Q)) ∧ (¬ (¬ jb_i σ l1 1 = 3) → (0 ≤ (jb_i σ l1 2) ∧ (jb_i σ l1 2) < 4) ∧ (jb_w d 56 60 [some (.ref 83), some (.ref l1), some (jb_v l2), some (jb_v 0), none] [] (jb_si σ 59 (jb_i σ l1 2) 0) Q))))))) :
    jb_w d 56 0 [some (.ref 83), some (.ref l1), some (jb_v l2), none, none] [] σ Q := by
  refine jaL1 (p := 1) rfl jM56 jq56_0 ?_
  obtain ⟨c1, h1⟩ := h
  refine jw_getI (p := 4) (i := 2) rfl jM56 jq56_1 rfl (hl1 c1).ob jn_3_2 ?_
  refine jw_if (p := 7) rfl jM56 jq56_4 (jc_lt (jb_r_i _ _ _) jb_r0) (fun c2 => ?_) (fun c2 => ?_)
  · have h2 := h1.1 c2
    refine jw_iconst (p := 59) rfl jM56 jq56_58 ?_
    refine jiS3 (p := 60) rfl jM56 jq56_59 ?_
    exact h2
  · have h2 := h1.2 c2
    refine jaL1 (p := 8) rfl jM56 jq56_7 ?_
    refine jw_getI (p := 11) (i := 2) rfl jM56 jq56_8 rfl (hl1 c1).ob jn_3_2 ?_
    refine jw_iconst (p := 12) rfl jM56 jq56_11 ?_
    refine jw_ic (p := 15) rfl jM56 jq56_12 (jc_ge (jb_r_i _ _ _) (jb_rn rfl)) (fun c3 => ?_) (fun c3 => ?_)
    · have h3 := h2.1 c3
      refine jw_iconst (p := 59) rfl jM56 jq56_58 ?_
      refine jiS3 (p := 60) rfl jM56 jq56_59 ?_
      exact h3
    · have h3 := h2.2 c3
      refine jaL1 (p := 16) rfl jM56 jq56_15 ?_
      refine jw_getI (p := 19) (i := 1) rfl jM56 jq56_16 rfl (hl1 c1).ob jn_3_1 ?_
      refine jw_iconst (p := 20) rfl jM56 jq56_19 ?_
      refine jw_ic (p := 23) rfl jM56 jq56_20 (jc_eq (jb_r_i _ _ _) (jb_rn rfl)) (fun c4 => ?_) (fun c4 => ?_)
      · have h4 := h3.1 c4
        refine jw_iconst (p := 32) rfl jM56 jq56_31 ?_
        refine jw_goto jM56 jq56_32 ?_
        refine jiS3 (p := 37) rfl jM56 jq56_36 ?_
        refine jaL0 (p := 38) rfl jM56 jq56_37 ?_
        refine jw_getP (p := 41) (i := 4) (q := 57) rfl jM56 jq56_38 rfl (jo_83 hF) je_5_4 (jp_83_4 hF) ?_
        refine jw_getP (p := 44) (i := 1) (q := 59) rfl jM56 jq56_41 rfl (jo_57 hF) je_6_1 (jp_57_1 hF) ?_
        refine jaL1 (p := 45) rfl jM56 jq56_44 ?_
        refine jw_getI (p := 48) (i := 2) rfl jM56 jq56_45 rfl (hl1 c1).ob jn_3_2 ?_
        refine jiL3 (p := 49) rfl jM56 jq56_48 ?_
        refine jw_if (p := 52) rfl jM56 jq56_49 (jc_eq (jb_rn rfl) jb_r0) (fun z => absurd z (by decide)) (fun _ => ?_)
        refine jw_iconst (p := 53) rfl jM56 jq56_52 ?_
        refine jw_goto jM56 jq56_53 ?_
        obtain ⟨c5, h5⟩ := h4
        refine jw_iast (p := 58) rfl jM56 jq56_57 (ja_59 hF) c5.1 c5.2 ?_
        refine jw_iconst (p := 59) rfl jM56 jq56_58 ?_
        refine jiS3 (p := 60) rfl jM56 jq56_59 ?_
        exact h5
      · have h4 := h3.2 c4
        refine jaL1 (p := 24) rfl jM56 jq56_23 ?_
        refine jw_getI (p := 27) (i := 1) rfl jM56 jq56_24 rfl (hl1 c1).ob jn_3_1 ?_
        refine jw_iconst (p := 28) rfl jM56 jq56_27 ?_
        refine jw_ic (p := 31) rfl jM56 jq56_28 (jc_ne (jb_r_i _ _ _) (jb_rn rfl)) (fun c6 => ?_) (fun c6 => ?_)
        · have h6 := h4.1 c6
          refine jw_iconst (p := 36) rfl jM56 jq56_35 ?_
          refine jiS3 (p := 37) rfl jM56 jq56_36 ?_
          refine jaL0 (p := 38) rfl jM56 jq56_37 ?_
          refine jw_getP (p := 41) (i := 4) (q := 57) rfl jM56 jq56_38 rfl (jo_83 hF) je_5_4 (jp_83_4 hF) ?_
          refine jw_getP (p := 44) (i := 1) (q := 59) rfl jM56 jq56_41 rfl (jo_57 hF) je_6_1 (jp_57_1 hF) ?_
          refine jaL1 (p := 45) rfl jM56 jq56_44 ?_
          refine jw_getI (p := 48) (i := 2) rfl jM56 jq56_45 rfl (hl1 c1).ob jn_3_2 ?_
          refine jiL3 (p := 49) rfl jM56 jq56_48 ?_
          refine jw_if (p := 52) rfl jM56 jq56_49 (jc_eq (jb_rn rfl) jb_r0) (fun _ => ?_) (fun z => absurd (by decide) z)
          refine jiL2 (p := 57) rfl jM56 jq56_56 ?_
          obtain ⟨c7, h7⟩ := h6
          refine jw_iast (p := 58) rfl jM56 jq56_57 (ja_59 hF) c7.1 c7.2 ?_
          refine jw_iconst (p := 59) rfl jM56 jq56_58 ?_
          refine jiS3 (p := 60) rfl jM56 jq56_59 ?_
          exact h7
        · have h6 := h4.2 c6
          refine jw_iconst (p := 32) rfl jM56 jq56_31 ?_
          refine jw_goto jM56 jq56_32 ?_
          refine jiS3 (p := 37) rfl jM56 jq56_36 ?_
          refine jaL0 (p := 38) rfl jM56 jq56_37 ?_
          refine jw_getP (p := 41) (i := 4) (q := 57) rfl jM56 jq56_38 rfl (jo_83 hF) je_5_4 (jp_83_4 hF) ?_
          refine jw_getP (p := 44) (i := 1) (q := 59) rfl jM56 jq56_41 rfl (jo_57 hF) je_6_1 (jp_57_1 hF) ?_
          refine jaL1 (p := 45) rfl jM56 jq56_44 ?_
          refine jw_getI (p := 48) (i := 2) rfl jM56 jq56_45 rfl (hl1 c1).ob jn_3_2 ?_
          refine jiL3 (p := 49) rfl jM56 jq56_48 ?_
          refine jw_if (p := 52) rfl jM56 jq56_49 (jc_eq (jb_rn rfl) jb_r0) (fun z => absurd z (by decide)) (fun _ => ?_)
          refine jw_iconst (p := 53) rfl jM56 jq56_52 ?_
          refine jw_goto jM56 jq56_53 ?_
          obtain ⟨c8, h8⟩ := h6
          refine jw_iast (p := 58) rfl jM56 jq56_57 (ja_59 hF) c8.1 c8.2 ?_
          refine jw_iconst (p := 59) rfl jM56 jq56_58 ?_
          refine jiS3 (p := 60) rfl jM56 jq56_59 ?_
          exact h8
theorem jk56_60 {d : Nat} {σ : ib_H} {Q : ib_O → Prop} {l1 : Nat} {l2 : Int} {l3 : Int} (hF : jb_F σ) (hl1 : l1 ≠ 0 → jb_rc σ l1) (hl2 : jb_r l2) (hl3 : jb_r l3)
    (h : (l1 ≠ 0) ∧ ((jb_i σ l1 8 ≤ l3 → Q (.inl none, σ)) ∧ (¬ (jb_i σ l1 8 ≤ l3) → jb_w d 30 0 [some (.ref l1), some (jb_v l3)] [] σ (jb_k (d + 1) 56 70 [some (.ref 83), some (.ref l1), some (jb_v l2), some (jb_v l3), none] [] Q)))) :
    jb_w (d + 1) 56 60 [some (.ref 83), some (.ref l1), some (jb_v l2), some (jb_v l3), none] [] σ Q := by
  refine jiL3 (p := 61) rfl jM56 jq56_60 ?_
  refine jaL1 (p := 62) rfl jM56 jq56_61 ?_
  obtain ⟨c1, h1⟩ := h
  refine jw_getI (p := 65) (i := 8) rfl jM56 jq56_62 rfl (hl1 c1).ob jn_3_8 ?_
  refine jw_ic (p := 68) rfl jM56 jq56_65 (jc_ge hl3 (jb_r_i _ _ _)) (fun c2 => ?_) (fun c2 => ?_)
  · have h2 := h1.1 c2
    exact jw_vret jM56 jq56_111 h2
  · have h2 := h1.2 c2
    refine jaL1 (p := 69) rfl jM56 jq56_68 ?_
    refine jiL3 (p := 70) rfl jM56 jq56_69 ?_
    refine jw_callV [(jb_v l3)] jM56 jq56_70 rfl rfl (hl1 c1).ob rfl jM30 rfl rfl ?_
    exact h2
theorem jk56_73 {d : Nat} {σ : ib_H} {Q : ib_O → Prop} {l1 : Nat} {l2 : Int} {l3 : Int} {s0 : Int} (hF : jb_F σ) (hl1 : l1 ≠ 0 → jb_rc σ l1) (hl2 : jb_r l2) (hl3 : jb_r l3) (hs0 : jb_r s0)
    (h : (s0 < 0 → jb_w d 56 60 [some (.ref 83), some (.ref l1), some (jb_v l2), some (jb_v (l3 + 1)), some (jb_v s0)] [] σ Q) ∧ (¬ (s0 < 0) → (24 ≤ s0 → jb_w d 56 60 [some (.ref 83), some (.ref l1), some (jb_v l2), some (jb_v (l3 + 1)), some (jb_v s0)] [] σ Q) ∧ (¬ (24 ≤ s0) → (0 ≤ s0 ∧ s0 < 24) ∧ ((¬ jb_i σ 84 s0 = 0 → jb_w d 56 60 [some (.ref 83), some (.ref l1), some (jb_v l2), some (jb_v (l3 + 1)), some (jb_v s0)] [] σ Q) ∧ (¬ (¬ jb_i σ 84 s0 = 0) → jb_w d 56 60 [some (.ref 83), some (.ref l1), some (jb_v l2), some (jb_v (l3 + 1)), some (jb_v s0)] [] (jb_si σ 84 s0 l2) Q))))) :
    jb_w d 56 73 [some (.ref 83), some (.ref l1), some (jb_v l2), some (jb_v l3), none] [(jb_v s0)] σ Q := by
  refine jiS4 (p := 75) rfl jM56 jq56_73 ?_
  refine jiL4 (p := 77) rfl jM56 jq56_75 ?_
  refine jw_if (p := 80) rfl jM56 jq56_77 (jc_lt hs0 jb_r0) (fun c1 => ?_) (fun c1 => ?_)
  · have h1 := h.1 c1
    refine jiI3 (p := 108) rfl jM56 jq56_105 ?_
    refine jw_goto jM56 jq56_108 ?_
    exact h1
  · have h1 := h.2 c1
    refine jiL4 (p := 82) rfl jM56 jq56_80 ?_
    refine jw_bipush (p := 84) rfl jM56 jq56_82 (by decide) ?_
    refine jw_ic (p := 87) rfl jM56 jq56_84 (jc_ge hs0 (jb_rn rfl)) (fun c2 => ?_) (fun c2 => ?_)
    · have h2 := h1.1 c2
      refine jiI3 (p := 108) rfl jM56 jq56_105 ?_
      refine jw_goto jM56 jq56_108 ?_
      exact h2
    · have h2 := h1.2 c2
      refine jaL0 (p := 88) rfl jM56 jq56_87 ?_
      refine jw_getP (p := 91) (i := 5) (q := 84) rfl jM56 jq56_88 rfl (jo_83 hF) je_5_5 (jp_83_5 hF) ?_
      refine jiL4 (p := 93) rfl jM56 jq56_91 ?_
      obtain ⟨c3, h3⟩ := h2
      refine jw_iald (p := 94) rfl jM56 jq56_93 (ja_84 hF) c3.1 c3.2 ?_
      refine jw_if (p := 97) rfl jM56 jq56_94 (jc_ne (jb_r_i _ _ _) jb_r0) (fun c4 => ?_) (fun c4 => ?_)
      · have h4 := h3.1 c4
        refine jiI3 (p := 108) rfl jM56 jq56_105 ?_
        refine jw_goto jM56 jq56_108 ?_
        exact h4
      · have h4 := h3.2 c4
        refine jaL0 (p := 98) rfl jM56 jq56_97 ?_
        refine jw_getP (p := 101) (i := 5) (q := 84) rfl jM56 jq56_98 rfl (jo_83 hF) je_5_5 (jp_83_5 hF) ?_
        refine jiL4 (p := 103) rfl jM56 jq56_101 ?_
        refine jiL2 (p := 104) rfl jM56 jq56_103 ?_
        refine jw_iast (p := 105) rfl jM56 jq56_104 (ja_84 hF) c3.1 c3.2 ?_
        refine jiI3 (p := 108) rfl jM56 jq56_105 ?_
        refine jw_goto jM56 jq56_108 ?_
        exact h4
theorem jk56_60_2 {d : Nat} {σ : ib_H} {Q : ib_O → Prop} {l1 : Nat} {l2 : Int} {l3 : Int} {l4 : Int} (hF : jb_F σ) (hl1 : l1 ≠ 0 → jb_rc σ l1) (hl2 : jb_r l2) (hl3 : jb_r l3) (hl4 : jb_r l4)
    (h : (l1 ≠ 0) ∧ ((jb_i σ l1 8 ≤ l3 → Q (.inl none, σ)) ∧ (¬ (jb_i σ l1 8 ≤ l3) → jb_w d 30 0 [some (.ref l1), some (jb_v l3)] [] σ (jb_k (d + 1) 56 70 [some (.ref 83), some (.ref l1), some (jb_v l2), some (jb_v l3), some (jb_v l4)] [] Q)))) :
    jb_w (d + 1) 56 60 [some (.ref 83), some (.ref l1), some (jb_v l2), some (jb_v l3), some (jb_v l4)] [] σ Q := by
  refine jiL3 (p := 61) rfl jM56 jq56_60 ?_
  refine jaL1 (p := 62) rfl jM56 jq56_61 ?_
  obtain ⟨c1, h1⟩ := h
  refine jw_getI (p := 65) (i := 8) rfl jM56 jq56_62 rfl (hl1 c1).ob jn_3_8 ?_
  refine jw_ic (p := 68) rfl jM56 jq56_65 (jc_ge hl3 (jb_r_i _ _ _)) (fun c2 => ?_) (fun c2 => ?_)
  · have h2 := h1.1 c2
    exact jw_vret jM56 jq56_111 h2
  · have h2 := h1.2 c2
    refine jaL1 (p := 69) rfl jM56 jq56_68 ?_
    refine jiL3 (p := 70) rfl jM56 jq56_69 ?_
    refine jw_callV [(jb_v l3)] jM56 jq56_70 rfl rfl (hl1 c1).ob rfl jM30 rfl rfl ?_
    exact h2
theorem jk56_73_2 {d : Nat} {σ : ib_H} {Q : ib_O → Prop} {l1 : Nat} {l2 : Int} {l3 : Int} {l4 : Int} {s0 : Int} (hF : jb_F σ) (hl1 : l1 ≠ 0 → jb_rc σ l1) (hl2 : jb_r l2) (hl3 : jb_r l3) (hl4 : jb_r l4) (hs0 : jb_r s0)
    (h : (s0 < 0 → jb_w d 56 60 [some (.ref 83), some (.ref l1), some (jb_v l2), some (jb_v (l3 + 1)), some (jb_v s0)] [] σ Q) ∧ (¬ (s0 < 0) → (24 ≤ s0 → jb_w d 56 60 [some (.ref 83), some (.ref l1), some (jb_v l2), some (jb_v (l3 + 1)), some (jb_v s0)] [] σ Q) ∧ (¬ (24 ≤ s0) → (0 ≤ s0 ∧ s0 < 24) ∧ ((¬ jb_i σ 84 s0 = 0 → jb_w d 56 60 [some (.ref 83), some (.ref l1), some (jb_v l2), some (jb_v (l3 + 1)), some (jb_v s0)] [] σ Q) ∧ (¬ (¬ jb_i σ 84 s0 = 0) → jb_w d 56 60 [some (.ref 83), some (.ref l1), some (jb_v l2), some (jb_v (l3 + 1)), some (jb_v s0)] [] (jb_si σ 84 s0 l2) Q))))) :
    jb_w d 56 73 [some (.ref 83), some (.ref l1), some (jb_v l2), some (jb_v l3), some (jb_v l4)] [(jb_v s0)] σ Q := by
  refine jiS4 (p := 75) rfl jM56 jq56_73 ?_
  refine jiL4 (p := 77) rfl jM56 jq56_75 ?_
  refine jw_if (p := 80) rfl jM56 jq56_77 (jc_lt hs0 jb_r0) (fun c1 => ?_) (fun c1 => ?_)
  · have h1 := h.1 c1
    refine jiI3 (p := 108) rfl jM56 jq56_105 ?_
    refine jw_goto jM56 jq56_108 ?_
    exact h1
  · have h1 := h.2 c1
    refine jiL4 (p := 82) rfl jM56 jq56_80 ?_
    refine jw_bipush (p := 84) rfl jM56 jq56_82 (by decide) ?_
    refine jw_ic (p := 87) rfl jM56 jq56_84 (jc_ge hs0 (jb_rn rfl)) (fun c2 => ?_) (fun c2 => ?_)
    · have h2 := h1.1 c2
      refine jiI3 (p := 108) rfl jM56 jq56_105 ?_
      refine jw_goto jM56 jq56_108 ?_
      exact h2
    · have h2 := h1.2 c2
      refine jaL0 (p := 88) rfl jM56 jq56_87 ?_
      refine jw_getP (p := 91) (i := 5) (q := 84) rfl jM56 jq56_88 rfl (jo_83 hF) je_5_5 (jp_83_5 hF) ?_
      refine jiL4 (p := 93) rfl jM56 jq56_91 ?_
      obtain ⟨c3, h3⟩ := h2
      refine jw_iald (p := 94) rfl jM56 jq56_93 (ja_84 hF) c3.1 c3.2 ?_
      refine jw_if (p := 97) rfl jM56 jq56_94 (jc_ne (jb_r_i _ _ _) jb_r0) (fun c4 => ?_) (fun c4 => ?_)
      · have h4 := h3.1 c4
        refine jiI3 (p := 108) rfl jM56 jq56_105 ?_
        refine jw_goto jM56 jq56_108 ?_
        exact h4
      · have h4 := h3.2 c4
        refine jaL0 (p := 98) rfl jM56 jq56_97 ?_
        refine jw_getP (p := 101) (i := 5) (q := 84) rfl jM56 jq56_98 rfl (jo_83 hF) je_5_5 (jp_83_5 hF) ?_
        refine jiL4 (p := 103) rfl jM56 jq56_101 ?_
        refine jiL2 (p := 104) rfl jM56 jq56_103 ?_
        refine jw_iast (p := 105) rfl jM56 jq56_104 (ja_84 hF) c3.1 c3.2 ?_
        refine jiI3 (p := 108) rfl jM56 jq56_105 ?_
        refine jw_goto jM56 jq56_108 ?_
        exact h4
-- 57 PageLoom$Recovery.redo()Z
theorem jk57_0 {d : Nat} {σ : ib_H} {Q : ib_O → Prop}  (hF : jb_F σ) 
    (h : jb_w d 58 0 [some (.ref 83), none, none] [] σ (jb_k (d + 1) 57 1 [some (.ref 83), none, none, none] [] Q)) :
    jb_w (d + 1) 57 0 [some (.ref 83), none, none, none] [] σ Q := by
  refine jaL0 (p := 1) rfl jM57 jq57_0 ?_
  refine jw_callV [] jM57 jq57_1 rfl rfl (jo_83 hF) rfl jM58 rfl rfl ?_
  exact h
theorem jk57_4 {d : Nat} {σ : ib_H} {Q : ib_O → Prop} {s0 : Int} (hF : jb_F σ) (hs0 : jb_r s0)
    (h : jb_w d 57 5 [some (.ref 83), some (jb_v s0), none, none] [] σ Q) :
    jb_w d 57 4 [some (.ref 83), none, none, none] [(jb_v s0)] σ Q := by
  refine jiS1 (p := 5) rfl jM57 jq57_4 ?_
  exact h
theorem jk57_5 {d : Nat} {σ : ib_H} {Q : ib_O → Prop} {l1 : Int} (hF : jb_F σ) (hl1 : jb_r l1)
    (h : (jb_i σ 63 4 < l1 → Q (.inl (some (jb_v 1)), σ)) ∧ (¬ (jb_i σ 63 4 < l1) → jb_w d 19 0 [some (.ref 63), some (jb_v l1)] [] σ (jb_k (d + 1) 57 21 [some (.ref 83), some (jb_v l1), none, none] [] Q))) :
    jb_w (d + 1) 57 5 [some (.ref 83), some (jb_v l1), none, none] [] σ Q := by
  refine jiL1 (p := 6) rfl jM57 jq57_5 ?_
  refine jaL0 (p := 7) rfl jM57 jq57_6 ?_
  refine jw_getP (p := 10) (i := 1) (q := 63) rfl jM57 jq57_7 rfl (jo_83 hF) je_5_1 (jp_83_1 hF) ?_
  refine jw_getI (p := 13) (i := 4) rfl jM57 jq57_10 rfl (jo_63 hF) jn_2_4 ?_
  refine jw_ic (p := 16) rfl jM57 jq57_13 (jc_gt hl1 (jb_r_i _ _ _)) (fun c1 => ?_) (fun c1 => ?_)
  · have h1 := h.1 c1
    refine jw_iconst (p := 64) rfl jM57 jq57_63 ?_
    exact jw_iret jM57 jq57_64 (fun _ => Or.inr rfl) h1
  · have h1 := h.2 c1
    refine jaL0 (p := 17) rfl jM57 jq57_16 ?_
    refine jw_getP (p := 20) (i := 1) (q := 63) rfl jM57 jq57_17 rfl (jo_83 hF) je_5_1 (jp_83_1 hF) ?_
    refine jiL1 (p := 21) rfl jM57 jq57_20 ?_
    refine jw_callV [(jb_v l1)] jM57 jq57_21 rfl rfl (jo_63 hF) rfl jM19 rfl rfl ?_
    exact h1
theorem jk57_24 {d : Nat} {σ : ib_H} {Q : ib_O → Prop} {l1 : Int} {s0 : Nat} (hF : jb_F σ) (hl1 : jb_r l1) (hs0 : s0 ≠ 0 → jb_rc σ s0)
    (h : jb_w d 57 27 [some (.ref 83), some (jb_v l1), some (.ref s0), some (jb_v 0)] [] σ Q) :
    jb_w d 57 24 [some (.ref 83), some (jb_v l1), none, none] [(.ref s0)] σ Q := by
  refine jaS2 (p := 25) rfl jM57 jq57_24 ?_
  refine jw_iconst (p := 26) rfl jM57 jq57_25 ?_
  refine jiS3 (p := 27) rfl jM57 jq57_26 ?_
  exact h
theorem jk57_27 {d : Nat} {σ : ib_H} {Q : ib_O → Prop} {l1 : Int} {l2 : Nat} {l3 : Int} (hF : jb_F σ) (hl1 : jb_r l1) (hl2 : l2 ≠ 0 → jb_rc σ l2) (hl3 : jb_r l3)
    (h : (l2 = 0 → jb_w (d + 1) 57 5 [some (.ref 83), some (jb_v (l1 + 1)), some (.ref l2), some (jb_v l3)] [] σ Q) ∧ (¬ (l2 = 0) → (jb_i σ l2 8 ≤ l3 → jb_w (d + 1) 57 5 [some (.ref 83), some (jb_v (l1 + 1)), some (.ref l2), some (jb_v l3)] [] σ Q) ∧ (¬ (jb_i σ l2 8 ≤ l3) → jb_w d 59 0 [some (.ref 83), some (.ref l2), some (jb_v l3), some (jb_v l1), none, none] [] σ (jb_k (d + 1) 57 43 [some (.ref 83), some (jb_v l1), some (.ref l2), some (jb_v l3)] [] Q)))) :
    jb_w (d + 1) 57 27 [some (.ref 83), some (jb_v l1), some (.ref l2), some (jb_v l3)] [] σ Q := by
  refine jaL2 (p := 28) rfl jM57 jq57_27 ?_
  refine jw_ifnull (p := 31) rfl jM57 jq57_28 (fun c1 => ?_) (fun c1 => ?_)
  · have h1 := h.1 c1
    refine jiI1 (p := 60) rfl jM57 jq57_57 ?_
    refine jw_goto jM57 jq57_60 ?_
    exact h1
  · have h1 := h.2 c1
    refine jiL3 (p := 32) rfl jM57 jq57_31 ?_
    refine jaL2 (p := 33) rfl jM57 jq57_32 ?_
    refine jw_getI (p := 36) (i := 8) rfl jM57 jq57_33 rfl (hl2 c1).ob jn_3_8 ?_
    refine jw_ic (p := 39) rfl jM57 jq57_36 (jc_ge hl3 (jb_r_i _ _ _)) (fun c2 => ?_) (fun c2 => ?_)
    · have h2 := h1.1 c2
      refine jiI1 (p := 60) rfl jM57 jq57_57 ?_
      refine jw_goto jM57 jq57_60 ?_
      exact h2
    · have h2 := h1.2 c2
      refine jaL0 (p := 40) rfl jM57 jq57_39 ?_
      refine jaL2 (p := 41) rfl jM57 jq57_40 ?_
      refine jiL3 (p := 42) rfl jM57 jq57_41 ?_
      refine jiL1 (p := 43) rfl jM57 jq57_42 ?_
      refine jw_callV [(.ref l2), (jb_v l3), (jb_v l1)] jM57 jq57_43 rfl rfl (jo_83 hF) rfl jM59 rfl rfl ?_
      exact h2
theorem jk57_5_2 {d : Nat} {σ : ib_H} {Q : ib_O → Prop} {l1 : Int} {l2 : Nat} {l3 : Int} (hF : jb_F σ) (hl1 : jb_r l1) (hl2 : l2 ≠ 0 → jb_rc σ l2) (hl3 : jb_r l3)
    (h : (jb_i σ 63 4 < l1 → Q (.inl (some (jb_v 1)), σ)) ∧ (¬ (jb_i σ 63 4 < l1) → jb_w d 19 0 [some (.ref 63), some (jb_v l1)] [] σ (jb_k (d + 1) 57 21 [some (.ref 83), some (jb_v l1), some (.ref l2), some (jb_v l3)] [] Q))) :
    jb_w (d + 1) 57 5 [some (.ref 83), some (jb_v l1), some (.ref l2), some (jb_v l3)] [] σ Q := by
  refine jiL1 (p := 6) rfl jM57 jq57_5 ?_
  refine jaL0 (p := 7) rfl jM57 jq57_6 ?_
  refine jw_getP (p := 10) (i := 1) (q := 63) rfl jM57 jq57_7 rfl (jo_83 hF) je_5_1 (jp_83_1 hF) ?_
  refine jw_getI (p := 13) (i := 4) rfl jM57 jq57_10 rfl (jo_63 hF) jn_2_4 ?_
  refine jw_ic (p := 16) rfl jM57 jq57_13 (jc_gt hl1 (jb_r_i _ _ _)) (fun c1 => ?_) (fun c1 => ?_)
  · have h1 := h.1 c1
    refine jw_iconst (p := 64) rfl jM57 jq57_63 ?_
    exact jw_iret jM57 jq57_64 (fun _ => Or.inr rfl) h1
  · have h1 := h.2 c1
    refine jaL0 (p := 17) rfl jM57 jq57_16 ?_
    refine jw_getP (p := 20) (i := 1) (q := 63) rfl jM57 jq57_17 rfl (jo_83 hF) je_5_1 (jp_83_1 hF) ?_
    refine jiL1 (p := 21) rfl jM57 jq57_20 ?_
    refine jw_callV [(jb_v l1)] jM57 jq57_21 rfl rfl (jo_63 hF) rfl jM19 rfl rfl ?_
    exact h1
theorem jk57_46 {d : Nat} {σ : ib_H} {Q : ib_O → Prop} {l1 : Int} {l2 : Nat} {l3 : Int} {s0 : Int} (hF : jb_F σ) (hl1 : jb_r l1) (hl2 : l2 ≠ 0 → jb_rc σ l2) (hl3 : jb_r l3) (hs0 : jb_r s0)
    (h : (¬ s0 = 0 → jb_w d 57 27 [some (.ref 83), some (jb_v l1), some (.ref l2), some (jb_v (l3 + 1))] [] σ Q) ∧ (¬ (¬ s0 = 0) → Q (.inl (some (jb_v 0)), σ))) :
    jb_w d 57 46 [some (.ref 83), some (jb_v l1), some (.ref l2), some (jb_v l3)] [(jb_v s0)] σ Q := by
  refine jw_if (p := 49) rfl jM57 jq57_46 (jc_ne hs0 jb_r0) (fun c1 => ?_) (fun c1 => ?_)
  · have h1 := h.1 c1
    refine jiI3 (p := 54) rfl jM57 jq57_51 ?_
    refine jw_goto jM57 jq57_54 ?_
    exact h1
  · have h1 := h.2 c1
    refine jw_iconst (p := 50) rfl jM57 jq57_49 ?_
    exact jw_iret jM57 jq57_50 (fun _ => Or.inl rfl) h1
theorem jk57_24_2 {d : Nat} {σ : ib_H} {Q : ib_O → Prop} {l1 : Int} {l2 : Nat} {l3 : Int} {s0 : Nat} (hF : jb_F σ) (hl1 : jb_r l1) (hl2 : l2 ≠ 0 → jb_rc σ l2) (hl3 : jb_r l3) (hs0 : s0 ≠ 0 → jb_rc σ s0)
    (h : jb_w d 57 27 [some (.ref 83), some (jb_v l1), some (.ref s0), some (jb_v 0)] [] σ Q) :
    jb_w d 57 24 [some (.ref 83), some (jb_v l1), some (.ref l2), some (jb_v l3)] [(.ref s0)] σ Q := by
  refine jaS2 (p := 25) rfl jM57 jq57_24 ?_
  refine jw_iconst (p := 26) rfl jM57 jq57_25 ?_
  refine jiS3 (p := 27) rfl jM57 jq57_26 ?_
  exact h
-- 58 PageLoom$Recovery.leastFirst()I
theorem jk58_0 {d : Nat} {σ : ib_H} {Q : ib_O → Prop}  (hF : jb_F σ) 
    (h : jb_w d 58 12 [some (.ref 83), some (jb_v ((jb_i σ 63 4) + 1)), some (jb_v 0)] [] σ Q) :
    jb_w d 58 0 [some (.ref 83), none, none] [] σ Q := by
  refine jaL0 (p := 1) rfl jM58 jq58_0 ?_
  refine jw_getP (p := 4) (i := 1) (q := 63) rfl jM58 jq58_1 rfl (jo_83 hF) je_5_1 (jp_83_1 hF) ?_
  refine jw_getI (p := 7) (i := 4) rfl jM58 jq58_4 rfl (jo_63 hF) jn_2_4 ?_
  refine jw_iconst (p := 8) rfl jM58 jq58_7 ?_
  refine jw_iadd (p := 9) rfl jM58 jq58_8 ?_
  refine jiS1 (p := 10) rfl jM58 jq58_9 ?_
  refine jw_iconst (p := 11) rfl jM58 jq58_10 ?_
  refine jiS2 (p := 12) rfl jM58 jq58_11 ?_
  exact h
theorem jk58_12 {d : Nat} {σ : ib_H} {Q : ib_O → Prop} {l1 : Int} {l2 : Int} (hF : jb_F σ) (hl1 : jb_r l1) (hl2 : jb_r l2)
    (h : (24 ≤ l2 → Q (.inl (some (jb_v l1)), σ)) ∧ (¬ (24 ≤ l2) → (0 ≤ l2 ∧ l2 < 24) ∧ ((jb_i σ 84 l2 ≤ 0 → jb_w d 58 12 [some (.ref 83), some (jb_v l1), some (jb_v (l2 + 1))] [] σ Q) ∧ (¬ (jb_i σ 84 l2 ≤ 0) → (l1 ≤ jb_i σ 84 l2 → jb_w d 58 12 [some (.ref 83), some (jb_v l1), some (jb_v (l2 + 1))] [] σ Q) ∧ (¬ (l1 ≤ jb_i σ 84 l2) → jb_w d 58 12 [some (.ref 83), some (jb_v (jb_i σ 84 l2)), some (jb_v (l2 + 1))] [] σ Q))))) :
    jb_w d 58 12 [some (.ref 83), some (jb_v l1), some (jb_v l2)] [] σ Q := by
  refine jiL2 (p := 13) rfl jM58 jq58_12 ?_
  refine jw_bipush (p := 15) rfl jM58 jq58_13 (by decide) ?_
  refine jw_ic (p := 18) rfl jM58 jq58_15 (jc_ge hl2 (jb_rn rfl)) (fun c1 => ?_) (fun c1 => ?_)
  · have h1 := h.1 c1
    refine jiL1 (p := 51) rfl jM58 jq58_50 ?_
    exact jw_iret jM58 jq58_51 (fun z => absurd z (by decide)) h1
  · have h1 := h.2 c1
    refine jaL0 (p := 19) rfl jM58 jq58_18 ?_
    refine jw_getP (p := 22) (i := 5) (q := 84) rfl jM58 jq58_19 rfl (jo_83 hF) je_5_5 (jp_83_5 hF) ?_
    refine jiL2 (p := 23) rfl jM58 jq58_22 ?_
    obtain ⟨c2, h2⟩ := h1
    refine jw_iald (p := 24) rfl jM58 jq58_23 (ja_84 hF) c2.1 c2.2 ?_
    refine jw_if (p := 27) rfl jM58 jq58_24 (jc_le (jb_r_i _ _ _) jb_r0) (fun c3 => ?_) (fun c3 => ?_)
    · have h3 := h2.1 c3
      refine jiI2 (p := 47) rfl jM58 jq58_44 ?_
      refine jw_goto jM58 jq58_47 ?_
      exact h3
    · have h3 := h2.2 c3
      refine jaL0 (p := 28) rfl jM58 jq58_27 ?_
      refine jw_getP (p := 31) (i := 5) (q := 84) rfl jM58 jq58_28 rfl (jo_83 hF) je_5_5 (jp_83_5 hF) ?_
      refine jiL2 (p := 32) rfl jM58 jq58_31 ?_
      refine jw_iald (p := 33) rfl jM58 jq58_32 (ja_84 hF) c2.1 c2.2 ?_
      refine jiL1 (p := 34) rfl jM58 jq58_33 ?_
      refine jw_ic (p := 37) rfl jM58 jq58_34 (jc_ge (jb_r_i _ _ _) hl1) (fun c4 => ?_) (fun c4 => ?_)
      · have h4 := h3.1 c4
        refine jiI2 (p := 47) rfl jM58 jq58_44 ?_
        refine jw_goto jM58 jq58_47 ?_
        exact h4
      · have h4 := h3.2 c4
        refine jaL0 (p := 38) rfl jM58 jq58_37 ?_
        refine jw_getP (p := 41) (i := 5) (q := 84) rfl jM58 jq58_38 rfl (jo_83 hF) je_5_5 (jp_83_5 hF) ?_
        refine jiL2 (p := 42) rfl jM58 jq58_41 ?_
        refine jw_iald (p := 43) rfl jM58 jq58_42 (ja_84 hF) c2.1 c2.2 ?_
        refine jiS1 (p := 44) rfl jM58 jq58_43 ?_
        refine jiI2 (p := 47) rfl jM58 jq58_44 ?_
        refine jw_goto jM58 jq58_47 ?_
        exact h4
-- 59 PageLoom$Recovery.redoPage(LPageLoom$LogRecord;II)Z
theorem jk59_0 {d : Nat} {σ : ib_H} {Q : ib_O → Prop} {l1 : Nat} {l2 : Int} {l3 : Int} (hF : jb_F σ) (hl1 : l1 ≠ 0 → jb_rc σ l1) (hl2 : jb_r l2) (hl3 : jb_r l3)
    (h : (l1 ≠ 0) ∧ (jb_w d 30 0 [some (.ref l1), some (jb_v l2)] [] σ (jb_k (d + 1) 59 2 [some (.ref 83), some (.ref l1), some (jb_v l2), some (jb_v l3), none, none] [] Q))) :
    jb_w (d + 1) 59 0 [some (.ref 83), some (.ref l1), some (jb_v l2), some (jb_v l3), none, none] [] σ Q := by
  refine jaL1 (p := 1) rfl jM59 jq59_0 ?_
  refine jiL2 (p := 2) rfl jM59 jq59_1 ?_
  obtain ⟨c1, h1⟩ := h
  refine jw_callV [(jb_v l2)] jM59 jq59_2 rfl rfl (hl1 c1).ob rfl jM30 rfl rfl ?_
  exact h1
theorem jk59_5 {d : Nat} {σ : ib_H} {Q : ib_O → Prop} {l1 : Nat} {l2 : Int} {l3 : Int} {s0 : Int} (hF : jb_F σ) (hl1 : l1 ≠ 0 → jb_rc σ l1) (hl2 : jb_r l2) (hl3 : jb_r l3) (hs0 : jb_r s0)
    (h : (s0 < 0 → Q (.inl (some (jb_v 1)), σ)) ∧ (¬ (s0 < 0) → (24 ≤ s0 → Q (.inl (some (jb_v 1)), σ)) ∧ (¬ (24 ≤ s0) → (0 ≤ s0 ∧ s0 < 24) ∧ ((jb_i σ 84 s0 = 0 → Q (.inl (some (jb_v 1)), σ)) ∧ (¬ (jb_i σ 84 s0 = 0) → (jb_i σ 84 s0 ≤ l3 → jb_w d 5 0 [some (.ref 66), some (jb_v s0), none] [] σ (jb_k (d + 1) 59 48 [some (.ref 83), some (.ref l1), some (jb_v l2), some (jb_v l3), some (jb_v s0), none] [] Q)) ∧ (¬ (jb_i σ 84 s0 ≤ l3) → Q (.inl (some (jb_v 1)), σ))))))) :
    jb_w (d + 1) 59 5 [some (.ref 83), some (.ref l1), some (jb_v l2), some (jb_v l3), none, none] [(jb_v s0)] σ Q := by
  refine jiS4 (p := 7) rfl jM59 jq59_5 ?_
  refine jiL4 (p := 9) rfl jM59 jq59_7 ?_
  refine jw_if (p := 12) rfl jM59 jq59_9 (jc_lt hs0 jb_r0) (fun c1 => ?_) (fun c1 => ?_)
  · have h1 := h.1 c1
    refine jw_iconst (p := 41) rfl jM59 jq59_40 ?_
    exact jw_iret jM59 jq59_41 (fun _ => Or.inr rfl) h1
  · have h1 := h.2 c1
    refine jiL4 (p := 14) rfl jM59 jq59_12 ?_
    refine jw_bipush (p := 16) rfl jM59 jq59_14 (by decide) ?_
    refine jw_ic (p := 19) rfl jM59 jq59_16 (jc_ge hs0 (jb_rn rfl)) (fun c2 => ?_) (fun c2 => ?_)
    · have h2 := h1.1 c2
      refine jw_iconst (p := 41) rfl jM59 jq59_40 ?_
      exact jw_iret jM59 jq59_41 (fun _ => Or.inr rfl) h2
    · have h2 := h1.2 c2
      refine jaL0 (p := 20) rfl jM59 jq59_19 ?_
      refine jw_getP (p := 23) (i := 5) (q := 84) rfl jM59 jq59_20 rfl (jo_83 hF) je_5_5 (jp_83_5 hF) ?_
      refine jiL4 (p := 25) rfl jM59 jq59_23 ?_
      obtain ⟨c3, h3⟩ := h2
      refine jw_iald (p := 26) rfl jM59 jq59_25 (ja_84 hF) c3.1 c3.2 ?_
      refine jw_if (p := 29) rfl jM59 jq59_26 (jc_eq (jb_r_i _ _ _) jb_r0) (fun c4 => ?_) (fun c4 => ?_)
      · have h4 := h3.1 c4
        refine jw_iconst (p := 41) rfl jM59 jq59_40 ?_
        exact jw_iret jM59 jq59_41 (fun _ => Or.inr rfl) h4
      · have h4 := h3.2 c4
        refine jaL0 (p := 30) rfl jM59 jq59_29 ?_
        refine jw_getP (p := 33) (i := 5) (q := 84) rfl jM59 jq59_30 rfl (jo_83 hF) je_5_5 (jp_83_5 hF) ?_
        refine jiL4 (p := 35) rfl jM59 jq59_33 ?_
        refine jw_iald (p := 36) rfl jM59 jq59_35 (ja_84 hF) c3.1 c3.2 ?_
        refine jiL3 (p := 37) rfl jM59 jq59_36 ?_
        refine jw_ic (p := 40) rfl jM59 jq59_37 (jc_le (jb_r_i _ _ _) hl3) (fun c5 => ?_) (fun c5 => ?_)
        · have h5 := h4.1 c5
          refine jaL0 (p := 43) rfl jM59 jq59_42 ?_
          refine jw_getP (p := 46) (i := 2) (q := 66) rfl jM59 jq59_43 rfl (jo_83 hF) je_5_2 (jp_83_2 hF) ?_
          refine jiL4 (p := 48) rfl jM59 jq59_46 ?_
          refine jw_callV [(jb_v s0)] jM59 jq59_48 rfl rfl (jo_66 hF) rfl jM5 rfl rfl ?_
          exact h5
        · have h5 := h4.2 c5
          refine jw_iconst (p := 41) rfl jM59 jq59_40 ?_
          exact jw_iret jM59 jq59_41 (fun _ => Or.inr rfl) h5
theorem jk59_51 {d : Nat} {σ : ib_H} {Q : ib_O → Prop} {l1 : Nat} {l2 : Int} {l3 : Int} {l4 : Int} {s0 : Int} (hF : jb_F σ) (hl1 : l1 ≠ 0 → jb_rc σ l1) (hl2 : jb_r l2) (hl3 : jb_r l3) (hl4 : jb_r l4) (hs0 : jb_r s0)
    (h : (¬ s0 = 0 → jb_w d 3 0 [some (.ref 66), some (jb_v l4), none] [] σ (jb_k (d + 1) 59 62 [some (.ref 83), some (.ref l1), some (jb_v l2), some (jb_v l3), some (jb_v l4), none] [] Q)) ∧ (¬ (¬ s0 = 0) → Q (.inl (some (jb_v 0)), σ))) :
    jb_w (d + 1) 59 51 [some (.ref 83), some (.ref l1), some (jb_v l2), some (jb_v l3), some (jb_v l4), none] [(jb_v s0)] σ Q := by
  refine jw_if (p := 54) rfl jM59 jq59_51 (jc_ne hs0 jb_r0) (fun c1 => ?_) (fun c1 => ?_)
  · have h1 := h.1 c1
    refine jaL0 (p := 57) rfl jM59 jq59_56 ?_
    refine jw_getP (p := 60) (i := 2) (q := 66) rfl jM59 jq59_57 rfl (jo_83 hF) je_5_2 (jp_83_2 hF) ?_
    refine jiL4 (p := 62) rfl jM59 jq59_60 ?_
    refine jw_callV [(jb_v l4)] jM59 jq59_62 rfl rfl (jo_66 hF) rfl jM3 rfl rfl ?_
    exact h1
  · have h1 := h.2 c1
    refine jw_iconst (p := 55) rfl jM59 jq59_54 ?_
    exact jw_iret jM59 jq59_55 (fun _ => Or.inl rfl) h1
theorem jk59_65 {d : Nat} {σ : ib_H} {Q : ib_O → Prop} {l1 : Nat} {l2 : Int} {l3 : Int} {l4 : Int} {s0 : Nat} (hF : jb_F σ) (hl1 : l1 ≠ 0 → jb_rc σ l1) (hl2 : jb_r l2) (hl3 : jb_r l3) (hl4 : jb_r l4) (hs0 : s0 ≠ 0 → jb_pg σ s0)
    (h : (s0 = 0 → Q (.inl (some (jb_v 1)), σ)) ∧ (¬ (s0 = 0) → (l3 ≤ jb_i σ s0 1 → Q (.inl (some (jb_v 1)), σ)) ∧ (¬ (l3 ≤ jb_i σ s0 1) → jb_w d 7 0 [some (.ref 66), some (jb_v l4), some (jb_v l3), none] [] σ (jb_k (d + 1) 59 88 [some (.ref 83), some (.ref l1), some (jb_v l2), some (jb_v l3), some (jb_v l4), some (.ref s0)] [] Q)))) :
    jb_w (d + 1) 59 65 [some (.ref 83), some (.ref l1), some (jb_v l2), some (jb_v l3), some (jb_v l4), none] [(.ref s0)] σ Q := by
  refine jaS5 (p := 67) rfl jM59 jq59_65 ?_
  refine jaL5 (p := 69) rfl jM59 jq59_67 ?_
  refine jw_ifnull (p := 72) rfl jM59 jq59_69 (fun c1 => ?_) (fun c1 => ?_)
  · have h1 := h.1 c1
    refine jw_iconst (p := 110) rfl jM59 jq59_109 ?_
    exact jw_iret jM59 jq59_110 (fun _ => Or.inr rfl) h1
  · have h1 := h.2 c1
    refine jaL5 (p := 74) rfl jM59 jq59_72 ?_
    refine jw_getI (p := 77) (i := 1) rfl jM59 jq59_74 rfl (hs0 c1).ob jn_4_1 ?_
    refine jiL3 (p := 78) rfl jM59 jq59_77 ?_
    refine jw_ic (p := 81) rfl jM59 jq59_78 (jc_ge (jb_r_i _ _ _) hl3) (fun c2 => ?_) (fun c2 => ?_)
    · have h2 := h1.1 c2
      refine jw_iconst (p := 110) rfl jM59 jq59_109 ?_
      exact jw_iret jM59 jq59_110 (fun _ => Or.inr rfl) h2
    · have h2 := h1.2 c2
      refine jaL0 (p := 82) rfl jM59 jq59_81 ?_
      refine jw_getP (p := 85) (i := 2) (q := 66) rfl jM59 jq59_82 rfl (jo_83 hF) je_5_2 (jp_83_2 hF) ?_
      refine jiL4 (p := 87) rfl jM59 jq59_85 ?_
      refine jiL3 (p := 88) rfl jM59 jq59_87 ?_
      refine jw_callV [(jb_v l4), (jb_v l3)] jM59 jq59_88 rfl rfl (jo_66 hF) rfl jM7 rfl rfl ?_
      exact h2
theorem jk59_91 {d : Nat} {σ : ib_H} {Q : ib_O → Prop} {l1 : Nat} {l2 : Int} {l3 : Int} {l4 : Int} {l5 : Nat} {s0 : Nat} (hF : jb_F σ) (hl1 : l1 ≠ 0 → jb_rc σ l1) (hl2 : jb_r l2) (hl3 : jb_r l3) (hl4 : jb_r l4) (hl5 : l5 ≠ 0 → jb_pg σ l5) (hs0 : s0 ≠ 0 → jb_pg σ s0)
    (h : (l1 ≠ 0) ∧ (jb_w d 31 0 [some (.ref l1), some (jb_v l2), some (.ref l5), none] [] σ (jb_k (d + 1) 59 96 [some (.ref 83), some (.ref l1), some (jb_v l2), some (jb_v l3), some (jb_v l4), some (.ref l5)] [] Q))) :
    jb_w (d + 1) 59 91 [some (.ref 83), some (.ref l1), some (jb_v l2), some (jb_v l3), some (jb_v l4), some (.ref l5)] [(.ref s0)] σ Q := by
  refine jw_popA (p := 92) rfl jM59 jq59_91 ?_
  refine jaL1 (p := 93) rfl jM59 jq59_92 ?_
  refine jiL2 (p := 94) rfl jM59 jq59_93 ?_
  refine jaL5 (p := 96) rfl jM59 jq59_94 ?_
  obtain ⟨c1, h1⟩ := h
  refine jw_callV [(jb_v l2), (.ref l5)] jM59 jq59_96 rfl rfl (hl1 c1).ob rfl jM31 rfl rfl ?_
  exact h1
theorem jk59_99 {d : Nat} {σ : ib_H} {Q : ib_O → Prop} {l1 : Nat} {l2 : Int} {l3 : Int} {l4 : Int} {l5 : Nat} (hF : jb_F σ) (hl1 : l1 ≠ 0 → jb_rc σ l1) (hl2 : jb_r l2) (hl3 : jb_r l3) (hl4 : jb_r l4) (hl5 : l5 ≠ 0 → jb_pg σ l5)
    (h : Q (.inl (some (jb_v 1)), jb_si σ 85 1 ((jb_i σ 85 1) + 1))) :
    jb_w d 59 99 [some (.ref 83), some (.ref l1), some (jb_v l2), some (jb_v l3), some (jb_v l4), some (.ref l5)] [] σ Q := by
  refine jaL0 (p := 100) rfl jM59 jq59_99 ?_
  refine jw_getP (p := 103) (i := 6) (q := 85) rfl jM59 jq59_100 rfl (jo_83 hF) je_5_6 (jp_83_6 hF) ?_
  refine jw_iconst (p := 104) rfl jM59 jq59_103 ?_
  refine jw_dup2 (p := 105) rfl jM59 jq59_104 ?_
  refine jw_iald (p := 106) rfl jM59 jq59_105 (ja_85 hF) (by decide) (by decide) ?_
  refine jw_iconst (p := 107) rfl jM59 jq59_106 ?_
  refine jw_iadd (p := 108) rfl jM59 jq59_107 ?_
  refine jw_iast (p := 109) rfl jM59 jq59_108 (ja_85 hF) (by decide) (by decide) ?_
  refine jw_iconst (p := 110) rfl jM59 jq59_109 ?_
  exact jw_iret jM59 jq59_110 (fun _ => Or.inr rfl) h
-- 60 PageLoom$Recovery.tidy()Z
theorem jk60_0 {d : Nat} {σ : ib_H} {Q : ib_O → Prop}  (hF : jb_F σ) 
    (h : jb_w d 60 2 [some (.ref 83), some (jb_v 0), none, none] [] σ Q) :
    jb_w d 60 0 [some (.ref 83), none, none, none] [] σ Q := by
  refine jw_iconst (p := 1) rfl jM60 jq60_0 ?_
  refine jiS1 (p := 2) rfl jM60 jq60_1 ?_
  exact h
theorem jk60_2 {d : Nat} {σ : ib_H} {Q : ib_O → Prop} {l1 : Int} (hF : jb_F σ) (hl1 : jb_r l1)
    (h : (24 < l1 → Q (.inl (some (jb_v 1)), σ)) ∧ (¬ (24 < l1) → jb_w d 87 0 [some (.ref 79), none, none] [] σ (jb_k (d + 1) 60 12 [some (.ref 83), some (jb_v l1), none, none] [] Q))) :
    jb_w (d + 1) 60 2 [some (.ref 83), some (jb_v l1), none, none] [] σ Q := by
  refine jiL1 (p := 3) rfl jM60 jq60_2 ?_
  refine jw_bipush (p := 5) rfl jM60 jq60_3 (by decide) ?_
  refine jw_ic (p := 8) rfl jM60 jq60_5 (jc_gt hl1 (jb_rn rfl)) (fun c1 => ?_) (fun c1 => ?_)
  · have h1 := h.1 c1
    refine jw_iconst (p := 72) rfl jM60 jq60_71 ?_
    exact jw_iret jM60 jq60_72 (fun _ => Or.inr rfl) h1
  · have h1 := h.2 c1
    refine jaL0 (p := 9) rfl jM60 jq60_8 ?_
    refine jw_getP (p := 12) (i := 3) (q := 79) rfl jM60 jq60_9 rfl (jo_83 hF) je_5_3 (jp_83_3 hF) ?_
    refine jw_callV [] jM60 jq60_12 rfl rfl (jo_79 hF) rfl jM87 rfl rfl ?_
    exact h1
theorem jk60_15 {d : Nat} {σ : ib_H} {Q : ib_O → Prop} {l1 : Int} {s0 : Int} (hF : jb_F σ) (hl1 : jb_r l1) (hs0 : jb_r s0)
    (h : (¬ s0 = (-1) → (¬ s0 = 0 → jb_w d 88 0 [some (.ref 79), some (jb_v s0), none, none] [] σ (jb_k (d + 1) 60 36 [some (.ref 83), some (jb_v l1), some (jb_v s0), none] [] Q)) ∧ (¬ (¬ s0 = 0) → (s0 = 0 → jb_w d 83 0 [some (.ref 79), some (jb_v s0), some (jb_v (-1)), none, none, none] [] σ (jb_k (d + 1) 60 57 [some (.ref 83), some (jb_v l1), some (jb_v s0), some (jb_v (-1))] [] Q)) ∧ (¬ (s0 = 0) → Q (.inl (some (jb_v 1)), σ)))) ∧ (¬ (¬ s0 = (-1)) → Q (.inl (some (jb_v 1)), σ))) :
    jb_w (d + 1) 60 15 [some (.ref 83), some (jb_v l1), none, none] [(jb_v s0)] σ Q := by
  refine jiS2 (p := 16) rfl jM60 jq60_15 ?_
  refine jiL2 (p := 17) rfl jM60 jq60_16 ?_
  refine jw_iconst (p := 18) rfl jM60 jq60_17 ?_
  refine jw_ic (p := 21) rfl jM60 jq60_18 (jc_ne hs0 (jb_rn rfl)) (fun c1 => ?_) (fun c1 => ?_)
  · have h1 := h.1 c1
    refine jiL2 (p := 24) rfl jM60 jq60_23 ?_
    refine jw_if (p := 27) rfl jM60 jq60_24 (jc_ne hs0 jb_r0) (fun c2 => ?_) (fun c2 => ?_)
    · have h2 := h1.1 c2
      refine jaL0 (p := 32) rfl jM60 jq60_31 ?_
      refine jw_getP (p := 35) (i := 3) (q := 79) rfl jM60 jq60_32 rfl (jo_83 hF) je_5_3 (jp_83_3 hF) ?_
      refine jiL2 (p := 36) rfl jM60 jq60_35 ?_
      refine jw_callV [(jb_v s0)] jM60 jq60_36 rfl rfl (jo_79 hF) rfl jM88 rfl rfl ?_
      exact h2
    · have h2 := h1.2 c2
      refine jw_iconst (p := 28) rfl jM60 jq60_27 ?_
      refine jw_goto jM60 jq60_28 ?_
      refine jiS3 (p := 40) rfl jM60 jq60_39 ?_
      refine jiL2 (p := 41) rfl jM60 jq60_40 ?_
      refine jw_if (p := 44) rfl jM60 jq60_41 (jc_eq hs0 jb_r0) (fun c3 => ?_) (fun c3 => ?_)
      · have h3 := h2.1 c3
        refine jaL0 (p := 52) rfl jM60 jq60_51 ?_
        refine jw_getP (p := 55) (i := 3) (q := 79) rfl jM60 jq60_52 rfl (jo_83 hF) je_5_3 (jp_83_3 hF) ?_
        refine jiL2 (p := 56) rfl jM60 jq60_55 ?_
        refine jiL3 (p := 57) rfl jM60 jq60_56 ?_
        refine jw_callV [(jb_v s0), (jb_v (-1))] jM60 jq60_57 rfl rfl (jo_79 hF) rfl jM83 rfl rfl ?_
        exact h3
      · have h3 := h2.2 c3
        refine jiL3 (p := 45) rfl jM60 jq60_44 ?_
        refine jw_iconst (p := 46) rfl jM60 jq60_45 ?_
        refine jw_ic (p := 49) rfl jM60 jq60_46 (jc_ne (jb_rn rfl) (jb_rn rfl)) (fun z => absurd z (by decide)) (fun _ => ?_)
        refine jw_iconst (p := 50) rfl jM60 jq60_49 ?_
        exact jw_iret jM60 jq60_50 (fun _ => Or.inr rfl) h3
  · have h1 := h.2 c1
    refine jw_iconst (p := 22) rfl jM60 jq60_21 ?_
    exact jw_iret jM60 jq60_22 (fun _ => Or.inr rfl) h1
theorem jk60_39 {d : Nat} {σ : ib_H} {Q : ib_O → Prop} {l1 : Int} {l2 : Int} {s0 : Int} (hF : jb_F σ) (hl1 : jb_r l1) (hl2 : jb_r l2) (hs0 : jb_r s0)
    (h : (l2 = 0 → jb_w d 83 0 [some (.ref 79), some (jb_v l2), some (jb_v s0), none, none, none] [] σ (jb_k (d + 1) 60 57 [some (.ref 83), some (jb_v l1), some (jb_v l2), some (jb_v s0)] [] Q)) ∧ (¬ (l2 = 0) → (¬ s0 = (-1) → jb_w d 83 0 [some (.ref 79), some (jb_v l2), some (jb_v s0), none, none, none] [] σ (jb_k (d + 1) 60 57 [some (.ref 83), some (jb_v l1), some (jb_v l2), some (jb_v s0)] [] Q)) ∧ (¬ (¬ s0 = (-1)) → Q (.inl (some (jb_v 1)), σ)))) :
    jb_w (d + 1) 60 39 [some (.ref 83), some (jb_v l1), some (jb_v l2), none] [(jb_v s0)] σ Q := by
  refine jiS3 (p := 40) rfl jM60 jq60_39 ?_
  refine jiL2 (p := 41) rfl jM60 jq60_40 ?_
  refine jw_if (p := 44) rfl jM60 jq60_41 (jc_eq hl2 jb_r0) (fun c1 => ?_) (fun c1 => ?_)
  · have h1 := h.1 c1
    refine jaL0 (p := 52) rfl jM60 jq60_51 ?_
    refine jw_getP (p := 55) (i := 3) (q := 79) rfl jM60 jq60_52 rfl (jo_83 hF) je_5_3 (jp_83_3 hF) ?_
    refine jiL2 (p := 56) rfl jM60 jq60_55 ?_
    refine jiL3 (p := 57) rfl jM60 jq60_56 ?_
    refine jw_callV [(jb_v l2), (jb_v s0)] jM60 jq60_57 rfl rfl (jo_79 hF) rfl jM83 rfl rfl ?_
    exact h1
  · have h1 := h.2 c1
    refine jiL3 (p := 45) rfl jM60 jq60_44 ?_
    refine jw_iconst (p := 46) rfl jM60 jq60_45 ?_
    refine jw_ic (p := 49) rfl jM60 jq60_46 (jc_ne hs0 (jb_rn rfl)) (fun c2 => ?_) (fun c2 => ?_)
    · have h2 := h1.1 c2
      refine jaL0 (p := 52) rfl jM60 jq60_51 ?_
      refine jw_getP (p := 55) (i := 3) (q := 79) rfl jM60 jq60_52 rfl (jo_83 hF) je_5_3 (jp_83_3 hF) ?_
      refine jiL2 (p := 56) rfl jM60 jq60_55 ?_
      refine jiL3 (p := 57) rfl jM60 jq60_56 ?_
      refine jw_callV [(jb_v l2), (jb_v s0)] jM60 jq60_57 rfl rfl (jo_79 hF) rfl jM83 rfl rfl ?_
      exact h2
    · have h2 := h1.2 c2
      refine jw_iconst (p := 50) rfl jM60 jq60_49 ?_
      exact jw_iret jM60 jq60_50 (fun _ => Or.inr rfl) h2
theorem jk60_60 {d : Nat} {σ : ib_H} {Q : ib_O → Prop} {l1 : Int} {l2 : Int} {l3 : Int} {s0 : Int} (hF : jb_F σ) (hl1 : jb_r l1) (hl2 : jb_r l2) (hl3 : jb_r l3) (hs0 : jb_r s0)
    (h : (¬ s0 = 0 → jb_w d 60 2 [some (.ref 83), some (jb_v (l1 + 1)), some (jb_v l2), some (jb_v l3)] [] σ Q) ∧ (¬ (¬ s0 = 0) → Q (.inl (some (jb_v 0)), σ))) :
    jb_w d 60 60 [some (.ref 83), some (jb_v l1), some (jb_v l2), some (jb_v l3)] [(jb_v s0)] σ Q := by
  refine jw_if (p := 63) rfl jM60 jq60_60 (jc_ne hs0 jb_r0) (fun c1 => ?_) (fun c1 => ?_)
  · have h1 := h.1 c1
    refine jiI1 (p := 68) rfl jM60 jq60_65 ?_
    refine jw_goto jM60 jq60_68 ?_
    exact h1
  · have h1 := h.2 c1
    refine jw_iconst (p := 64) rfl jM60 jq60_63 ?_
    exact jw_iret jM60 jq60_64 (fun _ => Or.inl rfl) h1
theorem jk60_2_2 {d : Nat} {σ : ib_H} {Q : ib_O → Prop} {l1 : Int} {l2 : Int} {l3 : Int} (hF : jb_F σ) (hl1 : jb_r l1) (hl2 : jb_r l2) (hl3 : jb_r l3)
    (h : (24 < l1 → Q (.inl (some (jb_v 1)), σ)) ∧ (¬ (24 < l1) → jb_w d 87 0 [some (.ref 79), none, none] [] σ (jb_k (d + 1) 60 12 [some (.ref 83), some (jb_v l1), some (jb_v l2), some (jb_v l3)] [] Q))) :
    jb_w (d + 1) 60 2 [some (.ref 83), some (jb_v l1), some (jb_v l2), some (jb_v l3)] [] σ Q := by
  refine jiL1 (p := 3) rfl jM60 jq60_2 ?_
  refine jw_bipush (p := 5) rfl jM60 jq60_3 (by decide) ?_
  refine jw_ic (p := 8) rfl jM60 jq60_5 (jc_gt hl1 (jb_rn rfl)) (fun c1 => ?_) (fun c1 => ?_)
  · have h1 := h.1 c1
    refine jw_iconst (p := 72) rfl jM60 jq60_71 ?_
    exact jw_iret jM60 jq60_72 (fun _ => Or.inr rfl) h1
  · have h1 := h.2 c1
    refine jaL0 (p := 9) rfl jM60 jq60_8 ?_
    refine jw_getP (p := 12) (i := 3) (q := 79) rfl jM60 jq60_9 rfl (jo_83 hF) je_5_3 (jp_83_3 hF) ?_
    refine jw_callV [] jM60 jq60_12 rfl rfl (jo_79 hF) rfl jM87 rfl rfl ?_
    exact h1
theorem jk60_15_2 {d : Nat} {σ : ib_H} {Q : ib_O → Prop} {l1 : Int} {l2 : Int} {l3 : Int} {s0 : Int} (hF : jb_F σ) (hl1 : jb_r l1) (hl2 : jb_r l2) (hl3 : jb_r l3) (hs0 : jb_r s0)
    (h : (¬ s0 = (-1) → (¬ s0 = 0 → jb_w d 88 0 [some (.ref 79), some (jb_v s0), none, none] [] σ (jb_k (d + 1) 60 36 [some (.ref 83), some (jb_v l1), some (jb_v s0), some (jb_v l3)] [] Q)) ∧ (¬ (¬ s0 = 0) → (s0 = 0 → jb_w d 83 0 [some (.ref 79), some (jb_v s0), some (jb_v (-1)), none, none, none] [] σ (jb_k (d + 1) 60 57 [some (.ref 83), some (jb_v l1), some (jb_v s0), some (jb_v (-1))] [] Q)) ∧ (¬ (s0 = 0) → Q (.inl (some (jb_v 1)), σ)))) ∧ (¬ (¬ s0 = (-1)) → Q (.inl (some (jb_v 1)), σ))) :
    jb_w (d + 1) 60 15 [some (.ref 83), some (jb_v l1), some (jb_v l2), some (jb_v l3)] [(jb_v s0)] σ Q := by
  refine jiS2 (p := 16) rfl jM60 jq60_15 ?_
  refine jiL2 (p := 17) rfl jM60 jq60_16 ?_
  refine jw_iconst (p := 18) rfl jM60 jq60_17 ?_
  refine jw_ic (p := 21) rfl jM60 jq60_18 (jc_ne hs0 (jb_rn rfl)) (fun c1 => ?_) (fun c1 => ?_)
  · have h1 := h.1 c1
    refine jiL2 (p := 24) rfl jM60 jq60_23 ?_
    refine jw_if (p := 27) rfl jM60 jq60_24 (jc_ne hs0 jb_r0) (fun c2 => ?_) (fun c2 => ?_)
    · have h2 := h1.1 c2
      refine jaL0 (p := 32) rfl jM60 jq60_31 ?_
      refine jw_getP (p := 35) (i := 3) (q := 79) rfl jM60 jq60_32 rfl (jo_83 hF) je_5_3 (jp_83_3 hF) ?_
      refine jiL2 (p := 36) rfl jM60 jq60_35 ?_
      refine jw_callV [(jb_v s0)] jM60 jq60_36 rfl rfl (jo_79 hF) rfl jM88 rfl rfl ?_
      exact h2
    · have h2 := h1.2 c2
      refine jw_iconst (p := 28) rfl jM60 jq60_27 ?_
      refine jw_goto jM60 jq60_28 ?_
      refine jiS3 (p := 40) rfl jM60 jq60_39 ?_
      refine jiL2 (p := 41) rfl jM60 jq60_40 ?_
      refine jw_if (p := 44) rfl jM60 jq60_41 (jc_eq hs0 jb_r0) (fun c3 => ?_) (fun c3 => ?_)
      · have h3 := h2.1 c3
        refine jaL0 (p := 52) rfl jM60 jq60_51 ?_
        refine jw_getP (p := 55) (i := 3) (q := 79) rfl jM60 jq60_52 rfl (jo_83 hF) je_5_3 (jp_83_3 hF) ?_
        refine jiL2 (p := 56) rfl jM60 jq60_55 ?_
        refine jiL3 (p := 57) rfl jM60 jq60_56 ?_
        refine jw_callV [(jb_v s0), (jb_v (-1))] jM60 jq60_57 rfl rfl (jo_79 hF) rfl jM83 rfl rfl ?_
        exact h3
      · have h3 := h2.2 c3
        refine jiL3 (p := 45) rfl jM60 jq60_44 ?_
        refine jw_iconst (p := 46) rfl jM60 jq60_45 ?_
        refine jw_ic (p := 49) rfl jM60 jq60_46 (jc_ne (jb_rn rfl) (jb_rn rfl)) (fun z => absurd z (by decide)) (fun _ => ?_)
        refine jw_iconst (p := 50) rfl jM60 jq60_49 ?_
        exact jw_iret jM60 jq60_50 (fun _ => Or.inr rfl) h3
  · have h1 := h.2 c1
    refine jw_iconst (p := 22) rfl jM60 jq60_21 ?_
    exact jw_iret jM60 jq60_22 (fun _ => Or.inr rfl) h1
theorem jk60_39_2 {d : Nat} {σ : ib_H} {Q : ib_O → Prop} {l1 : Int} {l2 : Int} {l3 : Int} {s0 : Int} (hF : jb_F σ) (hl1 : jb_r l1) (hl2 : jb_r l2) (hl3 : jb_r l3) (hs0 : jb_r s0)
    (h : (l2 = 0 → jb_w d 83 0 [some (.ref 79), some (jb_v l2), some (jb_v s0), none, none, none] [] σ (jb_k (d + 1) 60 57 [some (.ref 83), some (jb_v l1), some (jb_v l2), some (jb_v s0)] [] Q)) ∧ (¬ (l2 = 0) → (¬ s0 = (-1) → jb_w d 83 0 [some (.ref 79), some (jb_v l2), some (jb_v s0), none, none, none] [] σ (jb_k (d + 1) 60 57 [some (.ref 83), some (jb_v l1), some (jb_v l2), some (jb_v s0)] [] Q)) ∧ (¬ (¬ s0 = (-1)) → Q (.inl (some (jb_v 1)), σ)))) :
    jb_w (d + 1) 60 39 [some (.ref 83), some (jb_v l1), some (jb_v l2), some (jb_v l3)] [(jb_v s0)] σ Q := by
  refine jiS3 (p := 40) rfl jM60 jq60_39 ?_
  refine jiL2 (p := 41) rfl jM60 jq60_40 ?_
  refine jw_if (p := 44) rfl jM60 jq60_41 (jc_eq hl2 jb_r0) (fun c1 => ?_) (fun c1 => ?_)
  · have h1 := h.1 c1
    refine jaL0 (p := 52) rfl jM60 jq60_51 ?_
    refine jw_getP (p := 55) (i := 3) (q := 79) rfl jM60 jq60_52 rfl (jo_83 hF) je_5_3 (jp_83_3 hF) ?_
    refine jiL2 (p := 56) rfl jM60 jq60_55 ?_
    refine jiL3 (p := 57) rfl jM60 jq60_56 ?_
    refine jw_callV [(jb_v l2), (jb_v s0)] jM60 jq60_57 rfl rfl (jo_79 hF) rfl jM83 rfl rfl ?_
    exact h1
  · have h1 := h.2 c1
    refine jiL3 (p := 45) rfl jM60 jq60_44 ?_
    refine jw_iconst (p := 46) rfl jM60 jq60_45 ?_
    refine jw_ic (p := 49) rfl jM60 jq60_46 (jc_ne hs0 (jb_rn rfl)) (fun c2 => ?_) (fun c2 => ?_)
    · have h2 := h1.1 c2
      refine jaL0 (p := 52) rfl jM60 jq60_51 ?_
      refine jw_getP (p := 55) (i := 3) (q := 79) rfl jM60 jq60_52 rfl (jo_83 hF) je_5_3 (jp_83_3 hF) ?_
      refine jiL2 (p := 56) rfl jM60 jq60_55 ?_
      refine jiL3 (p := 57) rfl jM60 jq60_56 ?_
      refine jw_callV [(jb_v l2), (jb_v s0)] jM60 jq60_57 rfl rfl (jo_79 hF) rfl jM83 rfl rfl ?_
      exact h2
    · have h2 := h1.2 c2
      refine jw_iconst (p := 50) rfl jM60 jq60_49 ?_
      exact jw_iret jM60 jq60_50 (fun _ => Or.inr rfl) h2
-- 98 PageLoom$Walk.agreesWithLog()Z
theorem jk98_0 {d : Nat} {σ : ib_H} {Q : ib_O → Prop}  (hF : jb_F σ) 
    (h : jb_w d 22 0 [some (.ref 63), none, none] [] σ (jb_k (d + 1) 98 4 [some (.ref 86), none, none, none] [] Q)) :
    jb_w (d + 1) 98 0 [some (.ref 86), none, none, none] [] σ Q := by
  refine jaL0 (p := 1) rfl jM98 jq98_0 ?_
  refine jw_getP (p := 4) (i := 1) (q := 63) rfl jM98 jq98_1 rfl (jo_86 hF) je_9_1 (jp_86_1 hF) ?_
  refine jw_callV [] jM98 jq98_4 rfl rfl (jo_63 hF) rfl jM22 rfl rfl ?_
  exact h
theorem jk98_7 {d : Nat} {σ : ib_H} {Q : ib_O → Prop}  (hF : jb_F σ) 
    (h : jb_w d 98 10 [some (.ref 86), some (.ref 65), some (jb_v 0), none] [] σ Q) :
    jb_w d 98 7 [some (.ref 86), none, none, none] [(.ref 65)] σ Q := by
  refine jaS1 (p := 8) rfl jM98 jq98_7 ?_
  refine jw_iconst (p := 9) rfl jM98 jq98_8 ?_
  refine jiS2 (p := 10) rfl jM98 jq98_9 ?_
  exact h
theorem jk98_10 {d : Nat} {σ : ib_H} {Q : ib_O → Prop} {l2 : Int} (hF : jb_F σ) (hl2 : jb_r l2)
    (h : (32 ≤ l2 → Q (.inl (some (jb_v 1)), σ)) ∧ (¬ (32 ≤ l2) → (0 ≤ l2 ∧ l2 < 32) ∧ ((¬ jb_i σ 62 l2 = (-1) → jb_w (d + 1) 98 10 [some (.ref 86), some (.ref 65), some (jb_v (l2 + 1)), none] [] σ Q) ∧ (¬ (¬ jb_i σ 62 l2 = (-1)) → jb_w d 99 0 [some (.ref 86), some (jb_v l2), none, none, none] [] σ (jb_k (d + 1) 98 31 [some (.ref 86), some (.ref 65), some (jb_v l2), none] [] Q))))) :
    jb_w (d + 1) 98 10 [some (.ref 86), some (.ref 65), some (jb_v l2), none] [] σ Q := by
  refine jiL2 (p := 11) rfl jM98 jq98_10 ?_
  refine jw_bipush (p := 13) rfl jM98 jq98_11 (by decide) ?_
  refine jw_ic (p := 16) rfl jM98 jq98_13 (jc_ge hl2 (jb_rn rfl)) (fun c1 => ?_) (fun c1 => ?_)
  · have h1 := h.1 c1
    refine jw_iconst (p := 59) rfl jM98 jq98_58 ?_
    exact jw_iret jM98 jq98_59 (fun _ => Or.inr rfl) h1
  · have h1 := h.2 c1
    refine jaL0 (p := 17) rfl jM98 jq98_16 ?_
    refine jw_getP (p := 20) (i := 2) (q := 57) rfl jM98 jq98_17 rfl (jo_86 hF) je_9_2 (jp_86_2 hF) ?_
    refine jw_getP (p := 23) (i := 4) (q := 62) rfl jM98 jq98_20 rfl (jo_57 hF) je_6_4 (jp_57_4 hF) ?_
    refine jiL2 (p := 24) rfl jM98 jq98_23 ?_
    obtain ⟨c2, h2⟩ := h1
    refine jw_iald (p := 25) rfl jM98 jq98_24 (ja_62 hF) c2.1 c2.2 ?_
    refine jw_iconst (p := 26) rfl jM98 jq98_25 ?_
    refine jw_ic (p := 29) rfl jM98 jq98_26 (jc_ne (jb_r_i _ _ _) (jb_rn rfl)) (fun c3 => ?_) (fun c3 => ?_)
    · have h3 := h2.1 c3
      refine jiI2 (p := 55) rfl jM98 jq98_52 ?_
      refine jw_goto jM98 jq98_55 ?_
      exact h3
    · have h3 := h2.2 c3
      refine jaL0 (p := 30) rfl jM98 jq98_29 ?_
      refine jiL2 (p := 31) rfl jM98 jq98_30 ?_
      refine jw_callV [(jb_v l2)] jM98 jq98_31 rfl rfl (jo_86 hF) rfl jM99 rfl rfl ?_
      exact h3
theorem jk98_34 {d : Nat} {σ : ib_H} {Q : ib_O → Prop} {l2 : Int} {s0 : Nat} (hF : jb_F σ) (hl2 : jb_r l2) (hs0 : s0 ≠ 0 → jb_pg σ s0)
    (h : (s0 = 0 → Q (.inl (some (jb_v 0)), σ)) ∧ (¬ (s0 = 0) → jb_w d 42 0 [some (.ref s0), some (jb_v l2), none, none] [] σ (jb_k (d + 1) 98 41 [some (.ref 86), some (.ref 65), some (jb_v l2), some (.ref s0)] [] Q))) :
    jb_w (d + 1) 98 34 [some (.ref 86), some (.ref 65), some (jb_v l2), none] [(.ref s0)] σ Q := by
  refine jaS3 (p := 35) rfl jM98 jq98_34 ?_
  refine jaL3 (p := 36) rfl jM98 jq98_35 ?_
  refine jw_ifnull (p := 39) rfl jM98 jq98_36 (fun c1 => ?_) (fun c1 => ?_)
  · have h1 := h.1 c1
    refine jw_iconst (p := 51) rfl jM98 jq98_50 ?_
    exact jw_iret jM98 jq98_51 (fun _ => Or.inl rfl) h1
  · have h1 := h.2 c1
    refine jaL3 (p := 40) rfl jM98 jq98_39 ?_
    refine jiL2 (p := 41) rfl jM98 jq98_40 ?_
    refine jw_callV [(jb_v l2)] jM98 jq98_41 rfl rfl (hs0 c1).ob rfl jM42 rfl rfl ?_
    exact h1
theorem jk98_44 {d : Nat} {σ : ib_H} {Q : ib_O → Prop} {l2 : Int} {l3 : Nat} {s0 : Int} (hF : jb_F σ) (hl2 : jb_r l2) (hl3 : l3 ≠ 0 → jb_pg σ l3) (hs0 : jb_r s0)
    (h : (0 ≤ l2 ∧ l2 < 32) ∧ ((s0 = jb_i σ 65 l2 → jb_w d 98 10 [some (.ref 86), some (.ref 65), some (jb_v (l2 + 1)), some (.ref l3)] [] σ Q) ∧ (¬ (s0 = jb_i σ 65 l2) → Q (.inl (some (jb_v 0)), σ)))) :
    jb_w d 98 44 [some (.ref 86), some (.ref 65), some (jb_v l2), some (.ref l3)] [(jb_v s0)] σ Q := by
  refine jaL1 (p := 45) rfl jM98 jq98_44 ?_
  refine jiL2 (p := 46) rfl jM98 jq98_45 ?_
  obtain ⟨c1, h1⟩ := h
  refine jw_iald (p := 47) rfl jM98 jq98_46 (ja_65 hF) c1.1 c1.2 ?_
  refine jw_ic (p := 50) rfl jM98 jq98_47 (jc_eq hs0 (jb_r_i _ _ _)) (fun c2 => ?_) (fun c2 => ?_)
  · have h2 := h1.1 c2
    refine jiI2 (p := 55) rfl jM98 jq98_52 ?_
    refine jw_goto jM98 jq98_55 ?_
    exact h2
  · have h2 := h1.2 c2
    refine jw_iconst (p := 51) rfl jM98 jq98_50 ?_
    exact jw_iret jM98 jq98_51 (fun _ => Or.inl rfl) h2
theorem jk98_10_2 {d : Nat} {σ : ib_H} {Q : ib_O → Prop} {l2 : Int} {l3 : Nat} (hF : jb_F σ) (hl2 : jb_r l2) (hl3 : l3 ≠ 0 → jb_pg σ l3)
    (h : (32 ≤ l2 → Q (.inl (some (jb_v 1)), σ)) ∧ (¬ (32 ≤ l2) → (0 ≤ l2 ∧ l2 < 32) ∧ ((¬ jb_i σ 62 l2 = (-1) → jb_w (d + 1) 98 10 [some (.ref 86), some (.ref 65), some (jb_v (l2 + 1)), some (.ref l3)] [] σ Q) ∧ (¬ (¬ jb_i σ 62 l2 = (-1)) → jb_w d 99 0 [some (.ref 86), some (jb_v l2), none, none, none] [] σ (jb_k (d + 1) 98 31 [some (.ref 86), some (.ref 65), some (jb_v l2), some (.ref l3)] [] Q))))) :
    jb_w (d + 1) 98 10 [some (.ref 86), some (.ref 65), some (jb_v l2), some (.ref l3)] [] σ Q := by
  refine jiL2 (p := 11) rfl jM98 jq98_10 ?_
  refine jw_bipush (p := 13) rfl jM98 jq98_11 (by decide) ?_
  refine jw_ic (p := 16) rfl jM98 jq98_13 (jc_ge hl2 (jb_rn rfl)) (fun c1 => ?_) (fun c1 => ?_)
  · have h1 := h.1 c1
    refine jw_iconst (p := 59) rfl jM98 jq98_58 ?_
    exact jw_iret jM98 jq98_59 (fun _ => Or.inr rfl) h1
  · have h1 := h.2 c1
    refine jaL0 (p := 17) rfl jM98 jq98_16 ?_
    refine jw_getP (p := 20) (i := 2) (q := 57) rfl jM98 jq98_17 rfl (jo_86 hF) je_9_2 (jp_86_2 hF) ?_
    refine jw_getP (p := 23) (i := 4) (q := 62) rfl jM98 jq98_20 rfl (jo_57 hF) je_6_4 (jp_57_4 hF) ?_
    refine jiL2 (p := 24) rfl jM98 jq98_23 ?_
    obtain ⟨c2, h2⟩ := h1
    refine jw_iald (p := 25) rfl jM98 jq98_24 (ja_62 hF) c2.1 c2.2 ?_
    refine jw_iconst (p := 26) rfl jM98 jq98_25 ?_
    refine jw_ic (p := 29) rfl jM98 jq98_26 (jc_ne (jb_r_i _ _ _) (jb_rn rfl)) (fun c3 => ?_) (fun c3 => ?_)
    · have h3 := h2.1 c3
      refine jiI2 (p := 55) rfl jM98 jq98_52 ?_
      refine jw_goto jM98 jq98_55 ?_
      exact h3
    · have h3 := h2.2 c3
      refine jaL0 (p := 30) rfl jM98 jq98_29 ?_
      refine jiL2 (p := 31) rfl jM98 jq98_30 ?_
      refine jw_callV [(jb_v l2)] jM98 jq98_31 rfl rfl (jo_86 hF) rfl jM99 rfl rfl ?_
      exact h3
theorem jk98_34_2 {d : Nat} {σ : ib_H} {Q : ib_O → Prop} {l2 : Int} {l3 : Nat} {s0 : Nat} (hF : jb_F σ) (hl2 : jb_r l2) (hl3 : l3 ≠ 0 → jb_pg σ l3) (hs0 : s0 ≠ 0 → jb_pg σ s0)
    (h : (s0 = 0 → Q (.inl (some (jb_v 0)), σ)) ∧ (¬ (s0 = 0) → jb_w d 42 0 [some (.ref s0), some (jb_v l2), none, none] [] σ (jb_k (d + 1) 98 41 [some (.ref 86), some (.ref 65), some (jb_v l2), some (.ref s0)] [] Q))) :
    jb_w (d + 1) 98 34 [some (.ref 86), some (.ref 65), some (jb_v l2), some (.ref l3)] [(.ref s0)] σ Q := by
  refine jaS3 (p := 35) rfl jM98 jq98_34 ?_
  refine jaL3 (p := 36) rfl jM98 jq98_35 ?_
  refine jw_ifnull (p := 39) rfl jM98 jq98_36 (fun c1 => ?_) (fun c1 => ?_)
  · have h1 := h.1 c1
    refine jw_iconst (p := 51) rfl jM98 jq98_50 ?_
    exact jw_iret jM98 jq98_51 (fun _ => Or.inl rfl) h1
  · have h1 := h.2 c1
    refine jaL3 (p := 40) rfl jM98 jq98_39 ?_
    refine jiL2 (p := 41) rfl jM98 jq98_40 ?_
    refine jw_callV [(jb_v l2)] jM98 jq98_41 rfl rfl (hs0 c1).ob rfl jM42 rfl rfl ?_
    exact h1
-- 99 PageLoom$Walk.leafOf(I)LPageLoom$Page;
theorem jk99_0 {d : Nat} {σ : ib_H} {Q : ib_O → Prop} {l1 : Int} (hF : jb_F σ) (hl1 : jb_r l1)
    (h : jb_w d 99 4 [some (.ref 86), some (jb_v l1), some (jb_v 0), some (jb_v 0), none] [] σ Q) :
    jb_w d 99 0 [some (.ref 86), some (jb_v l1), none, none, none] [] σ Q := by
  refine jw_iconst (p := 1) rfl jM99 jq99_0 ?_
  refine jiS2 (p := 2) rfl jM99 jq99_1 ?_
  refine jw_iconst (p := 3) rfl jM99 jq99_2 ?_
  refine jiS3 (p := 4) rfl jM99 jq99_3 ?_
  exact h
theorem jk99_4 {d : Nat} {σ : ib_H} {Q : ib_O → Prop} {l1 : Int} {l2 : Int} {l3 : Int} (hF : jb_F σ) (hl1 : jb_r l1) (hl2 : jb_r l2) (hl3 : jb_r l3)
    (h : (24 ≤ l3 → Q (.inl (some (.ref 0)), σ)) ∧ (¬ (24 ≤ l3) → jb_w d 3 0 [some (.ref 66), some (jb_v l2), none] [] σ (jb_k (d + 1) 99 15 [some (.ref 86), some (jb_v l1), some (jb_v l2), some (jb_v l3), none] [] Q))) :
    jb_w (d + 1) 99 4 [some (.ref 86), some (jb_v l1), some (jb_v l2), some (jb_v l3), none] [] σ Q := by
  refine jiL3 (p := 5) rfl jM99 jq99_4 ?_
  refine jw_bipush (p := 7) rfl jM99 jq99_5 (by decide) ?_
  refine jw_ic (p := 10) rfl jM99 jq99_7 (jc_ge hl3 (jb_rn rfl)) (fun c1 => ?_) (fun c1 => ?_)
  · have h1 := h.1 c1
    refine jw_null (p := 61) rfl jM99 jq99_60 ?_
    exact jw_aret jM99 jq99_61 h1
  · have h1 := h.2 c1
    refine jaL0 (p := 11) rfl jM99 jq99_10 ?_
    refine jw_getP (p := 14) (i := 0) (q := 66) rfl jM99 jq99_11 rfl (jo_86 hF) je_9_0 (jp_86_0 hF) ?_
    refine jiL2 (p := 15) rfl jM99 jq99_14 ?_
    refine jw_callV [(jb_v l2)] jM99 jq99_15 rfl rfl (jo_66 hF) rfl jM3 rfl rfl ?_
    exact h1
theorem jk99_18 {d : Nat} {σ : ib_H} {Q : ib_O → Prop} {l1 : Int} {l2 : Int} {l3 : Int} {s0 : Nat} (hF : jb_F σ) (hl1 : jb_r l1) (hl2 : jb_r l2) (hl3 : jb_r l3) (hs0 : s0 ≠ 0 → jb_pg σ s0)
    (h : (s0 = 0 → Q (.inl (some (.ref 0)), σ)) ∧ (¬ (s0 = 0) → (¬ jb_i σ s0 0 = 0 → (¬ jb_i σ s0 0 = 1 → jb_w d 40 0 [some (.ref s0), some (jb_v l1), none, none] [] σ (jb_k (d + 1) 99 50 [some (.ref 86), some (jb_v l1), some (jb_v l2), some (jb_v l3), some (.ref s0)] [] Q)) ∧ (¬ (¬ jb_i σ s0 0 = 1) → Q (.inl (some (.ref s0)), σ))) ∧ (¬ (¬ jb_i σ s0 0 = 0) → Q (.inl (some (.ref 0)), σ)))) :
    jb_w (d + 1) 99 18 [some (.ref 86), some (jb_v l1), some (jb_v l2), some (jb_v l3), none] [(.ref s0)] σ Q := by
  refine jaS4 (p := 20) rfl jM99 jq99_18 ?_
  refine jaL4 (p := 22) rfl jM99 jq99_20 ?_
  refine jw_ifnull (p := 25) rfl jM99 jq99_22 (fun c1 => ?_) (fun c1 => ?_)
  · have h1 := h.1 c1
    refine jw_null (p := 34) rfl jM99 jq99_33 ?_
    exact jw_aret jM99 jq99_34 h1
  · have h1 := h.2 c1
    refine jaL4 (p := 27) rfl jM99 jq99_25 ?_
    refine jw_getI (p := 30) (i := 0) rfl jM99 jq99_27 rfl (hs0 c1).ob jn_4_0 ?_
    refine jw_if (p := 33) rfl jM99 jq99_30 (jc_ne (jb_r_i _ _ _) jb_r0) (fun c2 => ?_) (fun c2 => ?_)
    · have h2 := h1.1 c2
      refine jaL4 (p := 37) rfl jM99 jq99_35 ?_
      refine jw_getI (p := 40) (i := 0) rfl jM99 jq99_37 rfl (hs0 c1).ob jn_4_0 ?_
      refine jw_iconst (p := 41) rfl jM99 jq99_40 ?_
      refine jw_ic (p := 44) rfl jM99 jq99_41 (jc_ne (jb_r_i _ _ _) (jb_rn rfl)) (fun c3 => ?_) (fun c3 => ?_)
      · have h3 := h2.1 c3
        refine jaL4 (p := 49) rfl jM99 jq99_47 ?_
        refine jiL1 (p := 50) rfl jM99 jq99_49 ?_
        refine jw_callV [(jb_v l1)] jM99 jq99_50 rfl rfl (hs0 c1).ob rfl jM40 rfl rfl ?_
        exact h3
      · have h3 := h2.2 c3
        refine jaL4 (p := 46) rfl jM99 jq99_44 ?_
        exact jw_aret jM99 jq99_46 h3
    · have h2 := h1.2 c2
      refine jw_null (p := 34) rfl jM99 jq99_33 ?_
      exact jw_aret jM99 jq99_34 h2
theorem jk99_53 {d : Nat} {σ : ib_H} {Q : ib_O → Prop} {l1 : Int} {l2 : Int} {l3 : Int} {l4 : Nat} {s0 : Int} (hF : jb_F σ) (hl1 : jb_r l1) (hl2 : jb_r l2) (hl3 : jb_r l3) (hl4 : l4 ≠ 0 → jb_pg σ l4) (hs0 : jb_r s0)
    (h : jb_w d 99 4 [some (.ref 86), some (jb_v l1), some (jb_v s0), some (jb_v (l3 + 1)), some (.ref l4)] [] σ Q) :
    jb_w d 99 53 [some (.ref 86), some (jb_v l1), some (jb_v l2), some (jb_v l3), some (.ref l4)] [(jb_v s0)] σ Q := by
  refine jiS2 (p := 54) rfl jM99 jq99_53 ?_
  refine jiI3 (p := 57) rfl jM99 jq99_54 ?_
  refine jw_goto jM99 jq99_57 ?_
  exact h
theorem jk99_4_2 {d : Nat} {σ : ib_H} {Q : ib_O → Prop} {l1 : Int} {l2 : Int} {l3 : Int} {l4 : Nat} (hF : jb_F σ) (hl1 : jb_r l1) (hl2 : jb_r l2) (hl3 : jb_r l3) (hl4 : l4 ≠ 0 → jb_pg σ l4)
    (h : (24 ≤ l3 → Q (.inl (some (.ref 0)), σ)) ∧ (¬ (24 ≤ l3) → jb_w d 3 0 [some (.ref 66), some (jb_v l2), none] [] σ (jb_k (d + 1) 99 15 [some (.ref 86), some (jb_v l1), some (jb_v l2), some (jb_v l3), some (.ref l4)] [] Q))) :
    jb_w (d + 1) 99 4 [some (.ref 86), some (jb_v l1), some (jb_v l2), some (jb_v l3), some (.ref l4)] [] σ Q := by
  refine jiL3 (p := 5) rfl jM99 jq99_4 ?_
  refine jw_bipush (p := 7) rfl jM99 jq99_5 (by decide) ?_
  refine jw_ic (p := 10) rfl jM99 jq99_7 (jc_ge hl3 (jb_rn rfl)) (fun c1 => ?_) (fun c1 => ?_)
  · have h1 := h.1 c1
    refine jw_null (p := 61) rfl jM99 jq99_60 ?_
    exact jw_aret jM99 jq99_61 h1
  · have h1 := h.2 c1
    refine jaL0 (p := 11) rfl jM99 jq99_10 ?_
    refine jw_getP (p := 14) (i := 0) (q := 66) rfl jM99 jq99_11 rfl (jo_86 hF) je_9_0 (jp_86_0 hF) ?_
    refine jiL2 (p := 15) rfl jM99 jq99_14 ?_
    refine jw_callV [(jb_v l2)] jM99 jq99_15 rfl rfl (jo_66 hF) rfl jM3 rfl rfl ?_
    exact h1
theorem jk99_18_2 {d : Nat} {σ : ib_H} {Q : ib_O → Prop} {l1 : Int} {l2 : Int} {l3 : Int} {l4 : Nat} {s0 : Nat} (hF : jb_F σ) (hl1 : jb_r l1) (hl2 : jb_r l2) (hl3 : jb_r l3) (hl4 : l4 ≠ 0 → jb_pg σ l4) (hs0 : s0 ≠ 0 → jb_pg σ s0)
    (h : (s0 = 0 → Q (.inl (some (.ref 0)), σ)) ∧ (¬ (s0 = 0) → (¬ jb_i σ s0 0 = 0 → (¬ jb_i σ s0 0 = 1 → jb_w d 40 0 [some (.ref s0), some (jb_v l1), none, none] [] σ (jb_k (d + 1) 99 50 [some (.ref 86), some (jb_v l1), some (jb_v l2), some (jb_v l3), some (.ref s0)] [] Q)) ∧ (¬ (¬ jb_i σ s0 0 = 1) → Q (.inl (some (.ref s0)), σ))) ∧ (¬ (¬ jb_i σ s0 0 = 0) → Q (.inl (some (.ref 0)), σ)))) :
    jb_w (d + 1) 99 18 [some (.ref 86), some (jb_v l1), some (jb_v l2), some (jb_v l3), some (.ref l4)] [(.ref s0)] σ Q := by
  refine jaS4 (p := 20) rfl jM99 jq99_18 ?_
  refine jaL4 (p := 22) rfl jM99 jq99_20 ?_
  refine jw_ifnull (p := 25) rfl jM99 jq99_22 (fun c1 => ?_) (fun c1 => ?_)
  · have h1 := h.1 c1
    refine jw_null (p := 34) rfl jM99 jq99_33 ?_
    exact jw_aret jM99 jq99_34 h1
  · have h1 := h.2 c1
    refine jaL4 (p := 27) rfl jM99 jq99_25 ?_
    refine jw_getI (p := 30) (i := 0) rfl jM99 jq99_27 rfl (hs0 c1).ob jn_4_0 ?_
    refine jw_if (p := 33) rfl jM99 jq99_30 (jc_ne (jb_r_i _ _ _) jb_r0) (fun c2 => ?_) (fun c2 => ?_)
    · have h2 := h1.1 c2
      refine jaL4 (p := 37) rfl jM99 jq99_35 ?_
      refine jw_getI (p := 40) (i := 0) rfl jM99 jq99_37 rfl (hs0 c1).ob jn_4_0 ?_
      refine jw_iconst (p := 41) rfl jM99 jq99_40 ?_
      refine jw_ic (p := 44) rfl jM99 jq99_41 (jc_ne (jb_r_i _ _ _) (jb_rn rfl)) (fun c3 => ?_) (fun c3 => ?_)
      · have h3 := h2.1 c3
        refine jaL4 (p := 49) rfl jM99 jq99_47 ?_
        refine jiL1 (p := 50) rfl jM99 jq99_49 ?_
        refine jw_callV [(jb_v l1)] jM99 jq99_50 rfl rfl (hs0 c1).ob rfl jM40 rfl rfl ?_
        exact h3
      · have h3 := h2.2 c3
        refine jaL4 (p := 46) rfl jM99 jq99_44 ?_
        exact jw_aret jM99 jq99_46 h3
    · have h2 := h1.2 c2
      refine jw_null (p := 34) rfl jM99 jq99_33 ?_
      exact jw_aret jM99 jq99_34 h2
-- 100 PageLoom$Walk.leastFault()I
theorem jk100_0 {d : Nat} {σ : ib_H} {Q : ib_O → Prop}  (hF : jb_F σ) 
    (h : jb_w d 100 2 [some (.ref 86), some (jb_v 0), none] [] σ Q) :
    jb_w d 100 0 [some (.ref 86), none, none] [] σ Q := by
  refine jw_iconst (p := 1) rfl jM100 jq100_0 ?_
  refine jiS1 (p := 2) rfl jM100 jq100_1 ?_
  exact h
theorem jk100_2 {d : Nat} {σ : ib_H} {Q : ib_O → Prop} {l1 : Int} (hF : jb_F σ) (hl1 : jb_r l1)
    (h : (24 ≤ l1 → jb_w d 102 0 [some (.ref 86), some (jb_v 0), some (jb_v 0), some (jb_v 0), some (jb_v 32)] [] (jb_si (jb_si (jb_si σ 86 8 0) 86 9 (-1)) 86 10 7) (jb_k (d + 1) 100 43 [some (.ref 86), some (jb_v l1), none] [] Q)) ∧ (¬ (24 ≤ l1) → (0 ≤ l1 ∧ l1 < 24) ∧ (jb_w (d + 1) 100 2 [some (.ref 86), some (jb_v (l1 + 1)), none] [] (jb_si σ 91 l1 0) Q))) :
    jb_w (d + 1) 100 2 [some (.ref 86), some (jb_v l1), none] [] σ Q := by
  refine jiL1 (p := 3) rfl jM100 jq100_2 ?_
  refine jw_bipush (p := 5) rfl jM100 jq100_3 (by decide) ?_
  refine jw_ic (p := 8) rfl jM100 jq100_5 (jc_ge hl1 (jb_rn rfl)) (fun c1 => ?_) (fun c1 => ?_)
  · have h1 := h.1 c1
    refine jaL0 (p := 22) rfl jM100 jq100_21 ?_
    refine jw_iconst (p := 23) rfl jM100 jq100_22 ?_
    refine jw_putI (p := 26) (i := 8) rfl jM100 jq100_23 rfl (jo_86 hF) (Or.inl jz_9_8) ?_
    refine jaL0 (p := 27) rfl jM100 jq100_26 ?_
    refine jw_iconst (p := 28) rfl jM100 jq100_27 ?_
    refine jw_putI (p := 31) (i := 9) rfl jM100 jq100_28 rfl (jo_86 hF) (Or.inl jz_9_9) ?_
    refine jaL0 (p := 32) rfl jM100 jq100_31 ?_
    refine jw_bipush (p := 34) rfl jM100 jq100_32 (by decide) ?_
    refine jw_putI (p := 37) (i := 10) rfl jM100 jq100_34 rfl (jo_86 hF) (Or.inl jz_9_10) ?_
    refine jaL0 (p := 38) rfl jM100 jq100_37 ?_
    refine jw_iconst (p := 39) rfl jM100 jq100_38 ?_
    refine jw_iconst (p := 40) rfl jM100 jq100_39 ?_
    refine jw_iconst (p := 41) rfl jM100 jq100_40 ?_
    refine jw_bipush (p := 43) rfl jM100 jq100_41 (by decide) ?_
    refine jw_callV [(jb_v 0), (jb_v 0), (jb_v 0), (jb_v 32)] jM100 jq100_43 rfl rfl (jo_86 hF) rfl jM102 rfl rfl ?_
    exact h1
  · have h1 := h.2 c1
    refine jaL0 (p := 9) rfl jM100 jq100_8 ?_
    refine jw_getP (p := 12) (i := 7) (q := 91) rfl jM100 jq100_9 rfl (jo_86 hF) je_9_7 (jp_86_7 hF) ?_
    refine jiL1 (p := 13) rfl jM100 jq100_12 ?_
    refine jw_iconst (p := 14) rfl jM100 jq100_13 ?_
    obtain ⟨c2, h2⟩ := h1
    refine jw_bast (p := 15) rfl jM100 jq100_14 (ja_91 hF) c2.1 c2.2 (Or.inl rfl) ?_
    refine jiI1 (p := 18) rfl jM100 jq100_15 ?_
    refine jw_goto jM100 jq100_18 ?_
    exact h2
theorem jk100_46 {d : Nat} {σ : ib_H} {Q : ib_O → Prop} {l1 : Int} (hF : jb_F σ) (hl1 : jb_r l1)
    (h : jb_w d 100 48 [some (.ref 86), some (jb_v 0), none] [] σ Q) :
    jb_w d 100 46 [some (.ref 86), some (jb_v l1), none] [] σ Q := by
  refine jw_iconst (p := 47) rfl jM100 jq100_46 ?_
  refine jiS1 (p := 48) rfl jM100 jq100_47 ?_
  exact h
theorem jk100_48 {d : Nat} {σ : ib_H} {Q : ib_O → Prop} {l1 : Int} (hF : jb_F σ) (hl1 : jb_r l1)
    (h : (jb_i σ 86 8 ≤ l1 → jb_w (d + 1) 100 75 [some (.ref 86), some (jb_v 0), none] [] σ Q) ∧ (¬ (jb_i σ 86 8 ≤ l1) → (24 ≤ l1 → jb_w (d + 1) 100 75 [some (.ref 86), some (jb_v 0), none] [] σ Q) ∧ (¬ (24 ≤ l1) → jb_w d 103 0 [some (.ref 86), some (jb_v l1), none] [] σ (jb_k (d + 1) 100 64 [some (.ref 86), some (jb_v l1), none] [] Q)))) :
    jb_w (d + 1) 100 48 [some (.ref 86), some (jb_v l1), none] [] σ Q := by
  refine jiL1 (p := 49) rfl jM100 jq100_48 ?_
  refine jaL0 (p := 50) rfl jM100 jq100_49 ?_
  refine jw_getI (p := 53) (i := 8) rfl jM100 jq100_50 rfl (jo_86 hF) jn_9_8 ?_
  refine jw_ic (p := 56) rfl jM100 jq100_53 (jc_ge hl1 (jb_r_i _ _ _)) (fun c1 => ?_) (fun c1 => ?_)
  · have h1 := h.1 c1
    refine jw_iconst (p := 74) rfl jM100 jq100_73 ?_
    refine jiS1 (p := 75) rfl jM100 jq100_74 ?_
    exact h1
  · have h1 := h.2 c1
    refine jiL1 (p := 57) rfl jM100 jq100_56 ?_
    refine jw_bipush (p := 59) rfl jM100 jq100_57 (by decide) ?_
    refine jw_ic (p := 62) rfl jM100 jq100_59 (jc_ge hl1 (jb_rn rfl)) (fun c2 => ?_) (fun c2 => ?_)
    · have h2 := h1.1 c2
      refine jw_iconst (p := 74) rfl jM100 jq100_73 ?_
      refine jiS1 (p := 75) rfl jM100 jq100_74 ?_
      exact h2
    · have h2 := h1.2 c2
      refine jaL0 (p := 63) rfl jM100 jq100_62 ?_
      refine jiL1 (p := 64) rfl jM100 jq100_63 ?_
      refine jw_callV [(jb_v l1)] jM100 jq100_64 rfl rfl (jo_86 hF) rfl jM103 rfl rfl ?_
      exact h2
theorem jk100_75 {d : Nat} {σ : ib_H} {Q : ib_O → Prop} {l1 : Int} (hF : jb_F σ) (hl1 : jb_r l1)
    (h : (24 ≤ l1 → (¬ jb_i σ 86 10 = 7 → Q (.inl (some (jb_v (jb_i σ 86 10))), σ)) ∧ (¬ (¬ jb_i σ 86 10 = 7) → Q (.inl (some (jb_v 0)), σ))) ∧ (¬ (24 ≤ l1) → jb_w d 4 0 [some (.ref 66), some (jb_v l1), none] [] σ (jb_k (d + 1) 100 86 [some (.ref 86), some (jb_v l1), none] [] Q))) :
    jb_w (d + 1) 100 75 [some (.ref 86), some (jb_v l1), none] [] σ Q := by
  refine jiL1 (p := 76) rfl jM100 jq100_75 ?_
  refine jw_bipush (p := 78) rfl jM100 jq100_76 (by decide) ?_
  refine jw_ic (p := 81) rfl jM100 jq100_78 (jc_ge hl1 (jb_rn rfl)) (fun c1 => ?_) (fun c1 => ?_)
  · have h1 := h.1 c1
    refine jaL0 (p := 121) rfl jM100 jq100_120 ?_
    refine jw_getI (p := 124) (i := 10) rfl jM100 jq100_121 rfl (jo_86 hF) jn_9_10 ?_
    refine jw_bipush (p := 126) rfl jM100 jq100_124 (by decide) ?_
    refine jw_ic (p := 129) rfl jM100 jq100_126 (jc_ne (jb_r_i _ _ _) (jb_rn rfl)) (fun c2 => ?_) (fun c2 => ?_)
    · have h2 := h1.1 c2
      refine jaL0 (p := 134) rfl jM100 jq100_133 ?_
      refine jw_getI (p := 137) (i := 10) rfl jM100 jq100_134 rfl (jo_86 hF) jn_9_10 ?_
      exact jw_iret jM100 jq100_137 (fun z => absurd z (by decide)) h2
    · have h2 := h1.2 c2
      refine jw_iconst (p := 130) rfl jM100 jq100_129 ?_
      refine jw_goto jM100 jq100_130 ?_
      exact jw_iret jM100 jq100_137 (fun z => absurd z (by decide)) h2
  · have h1 := h.2 c1
    refine jaL0 (p := 82) rfl jM100 jq100_81 ?_
    refine jw_getP (p := 85) (i := 0) (q := 66) rfl jM100 jq100_82 rfl (jo_86 hF) je_9_0 (jp_86_0 hF) ?_
    refine jiL1 (p := 86) rfl jM100 jq100_85 ?_
    refine jw_callV [(jb_v l1)] jM100 jq100_86 rfl rfl (jo_66 hF) rfl jM4 rfl rfl ?_
    exact h1
theorem jk100_67 {d : Nat} {σ : ib_H} {Q : ib_O → Prop} {l1 : Int} (hF : jb_F σ) (hl1 : jb_r l1)
    (h : jb_w d 100 48 [some (.ref 86), some (jb_v (l1 + 1)), none] [] σ Q) :
    jb_w d 100 67 [some (.ref 86), some (jb_v l1), none] [] σ Q := by
  refine jiI1 (p := 70) rfl jM100 jq100_67 ?_
  refine jw_goto jM100 jq100_70 ?_
  exact h
theorem jk100_89 {d : Nat} {σ : ib_H} {Q : ib_O → Prop} {l1 : Int} {s0 : Int} (hF : jb_F σ) (hl1 : jb_r l1) (hs0 : jb_r s0)
    (h : (0 ≤ l1 ∧ l1 < 24) ∧ ((¬ jb_i σ 91 l1 = 0 → jb_w (d + 1) 100 75 [some (.ref 86), some (jb_v (l1 + 1)), some (jb_v s0)] [] σ Q) ∧ (¬ (¬ jb_i σ 91 l1 = 0) → (s0 = (-1) → jb_w (d + 1) 100 75 [some (.ref 86), some (jb_v (l1 + 1)), some (jb_v s0)] [] σ Q) ∧ (¬ (s0 = (-1)) → (s0 = 0 → jb_w (d + 1) 100 75 [some (.ref 86), some (jb_v (l1 + 1)), some (jb_v s0)] [] σ Q) ∧ (¬ (s0 = 0) → jb_w d 101 0 [some (.ref 86), some (jb_v 6)] [] σ (jb_k (d + 1) 100 111 [some (.ref 86), some (jb_v l1), some (jb_v s0)] [] Q)))))) :
    jb_w (d + 1) 100 89 [some (.ref 86), some (jb_v l1), none] [(jb_v s0)] σ Q := by
  refine jiS2 (p := 90) rfl jM100 jq100_89 ?_
  refine jaL0 (p := 91) rfl jM100 jq100_90 ?_
  refine jw_getP (p := 94) (i := 7) (q := 91) rfl jM100 jq100_91 rfl (jo_86 hF) je_9_7 (jp_86_7 hF) ?_
  refine jiL1 (p := 95) rfl jM100 jq100_94 ?_
  obtain ⟨c1, h1⟩ := h
  refine jw_bald (p := 96) rfl jM100 jq100_95 (ja_91 hF) c1.1 c1.2 ?_
  refine jw_if (p := 99) rfl jM100 jq100_96 (jc_ne (jb_r_i _ _ _) jb_r0) (fun c2 => ?_) (fun c2 => ?_)
  · have h2 := h1.1 c2
    refine jiI1 (p := 117) rfl jM100 jq100_114 ?_
    refine jw_goto jM100 jq100_117 ?_
    exact h2
  · have h2 := h1.2 c2
    refine jiL2 (p := 100) rfl jM100 jq100_99 ?_
    refine jw_iconst (p := 101) rfl jM100 jq100_100 ?_
    refine jw_ic (p := 104) rfl jM100 jq100_101 (jc_eq hs0 (jb_rn rfl)) (fun c3 => ?_) (fun c3 => ?_)
    · have h3 := h2.1 c3
      refine jiI1 (p := 117) rfl jM100 jq100_114 ?_
      refine jw_goto jM100 jq100_117 ?_
      exact h3
    · have h3 := h2.2 c3
      refine jiL2 (p := 105) rfl jM100 jq100_104 ?_
      refine jw_if (p := 108) rfl jM100 jq100_105 (jc_eq hs0 jb_r0) (fun c4 => ?_) (fun c4 => ?_)
      · have h4 := h3.1 c4
        refine jiI1 (p := 117) rfl jM100 jq100_114 ?_
        refine jw_goto jM100 jq100_117 ?_
        exact h4
      · have h4 := h3.2 c4
        refine jaL0 (p := 109) rfl jM100 jq100_108 ?_
        refine jw_bipush (p := 111) rfl jM100 jq100_109 (by decide) ?_
        refine jw_callV [(jb_v 6)] jM100 jq100_111 rfl rfl (jo_86 hF) rfl jM101 rfl rfl ?_
        exact h4
theorem jk100_75_2 {d : Nat} {σ : ib_H} {Q : ib_O → Prop} {l1 : Int} {l2 : Int} (hF : jb_F σ) (hl1 : jb_r l1) (hl2 : jb_r l2)
    (h : (24 ≤ l1 → (¬ jb_i σ 86 10 = 7 → Q (.inl (some (jb_v (jb_i σ 86 10))), σ)) ∧ (¬ (¬ jb_i σ 86 10 = 7) → Q (.inl (some (jb_v 0)), σ))) ∧ (¬ (24 ≤ l1) → jb_w d 4 0 [some (.ref 66), some (jb_v l1), none] [] σ (jb_k (d + 1) 100 86 [some (.ref 86), some (jb_v l1), some (jb_v l2)] [] Q))) :
    jb_w (d + 1) 100 75 [some (.ref 86), some (jb_v l1), some (jb_v l2)] [] σ Q := by
  refine jiL1 (p := 76) rfl jM100 jq100_75 ?_
  refine jw_bipush (p := 78) rfl jM100 jq100_76 (by decide) ?_
  refine jw_ic (p := 81) rfl jM100 jq100_78 (jc_ge hl1 (jb_rn rfl)) (fun c1 => ?_) (fun c1 => ?_)
  · have h1 := h.1 c1
    refine jaL0 (p := 121) rfl jM100 jq100_120 ?_
    refine jw_getI (p := 124) (i := 10) rfl jM100 jq100_121 rfl (jo_86 hF) jn_9_10 ?_
    refine jw_bipush (p := 126) rfl jM100 jq100_124 (by decide) ?_
    refine jw_ic (p := 129) rfl jM100 jq100_126 (jc_ne (jb_r_i _ _ _) (jb_rn rfl)) (fun c2 => ?_) (fun c2 => ?_)
    · have h2 := h1.1 c2
      refine jaL0 (p := 134) rfl jM100 jq100_133 ?_
      refine jw_getI (p := 137) (i := 10) rfl jM100 jq100_134 rfl (jo_86 hF) jn_9_10 ?_
      exact jw_iret jM100 jq100_137 (fun z => absurd z (by decide)) h2
    · have h2 := h1.2 c2
      refine jw_iconst (p := 130) rfl jM100 jq100_129 ?_
      refine jw_goto jM100 jq100_130 ?_
      exact jw_iret jM100 jq100_137 (fun z => absurd z (by decide)) h2
  · have h1 := h.2 c1
    refine jaL0 (p := 82) rfl jM100 jq100_81 ?_
    refine jw_getP (p := 85) (i := 0) (q := 66) rfl jM100 jq100_82 rfl (jo_86 hF) je_9_0 (jp_86_0 hF) ?_
    refine jiL1 (p := 86) rfl jM100 jq100_85 ?_
    refine jw_callV [(jb_v l1)] jM100 jq100_86 rfl rfl (jo_66 hF) rfl jM4 rfl rfl ?_
    exact h1
theorem jk100_114 {d : Nat} {σ : ib_H} {Q : ib_O → Prop} {l1 : Int} {l2 : Int} (hF : jb_F σ) (hl1 : jb_r l1) (hl2 : jb_r l2)
    (h : jb_w d 100 75 [some (.ref 86), some (jb_v (l1 + 1)), some (jb_v l2)] [] σ Q) :
    jb_w d 100 114 [some (.ref 86), some (jb_v l1), some (jb_v l2)] [] σ Q := by
  refine jiI1 (p := 117) rfl jM100 jq100_114 ?_
  refine jw_goto jM100 jq100_117 ?_
  exact h
theorem jk100_89_2 {d : Nat} {σ : ib_H} {Q : ib_O → Prop} {l1 : Int} {l2 : Int} {s0 : Int} (hF : jb_F σ) (hl1 : jb_r l1) (hl2 : jb_r l2) (hs0 : jb_r s0)
    (h : (0 ≤ l1 ∧ l1 < 24) ∧ ((¬ jb_i σ 91 l1 = 0 → jb_w (d + 1) 100 75 [some (.ref 86), some (jb_v (l1 + 1)), some (jb_v s0)] [] σ Q) ∧ (¬ (¬ jb_i σ 91 l1 = 0) → (s0 = (-1) → jb_w (d + 1) 100 75 [some (.ref 86), some (jb_v (l1 + 1)), some (jb_v s0)] [] σ Q) ∧ (¬ (s0 = (-1)) → (s0 = 0 → jb_w (d + 1) 100 75 [some (.ref 86), some (jb_v (l1 + 1)), some (jb_v s0)] [] σ Q) ∧ (¬ (s0 = 0) → jb_w d 101 0 [some (.ref 86), some (jb_v 6)] [] σ (jb_k (d + 1) 100 111 [some (.ref 86), some (jb_v l1), some (jb_v s0)] [] Q)))))) :
    jb_w (d + 1) 100 89 [some (.ref 86), some (jb_v l1), some (jb_v l2)] [(jb_v s0)] σ Q := by
  refine jiS2 (p := 90) rfl jM100 jq100_89 ?_
  refine jaL0 (p := 91) rfl jM100 jq100_90 ?_
  refine jw_getP (p := 94) (i := 7) (q := 91) rfl jM100 jq100_91 rfl (jo_86 hF) je_9_7 (jp_86_7 hF) ?_
  refine jiL1 (p := 95) rfl jM100 jq100_94 ?_
  obtain ⟨c1, h1⟩ := h
  refine jw_bald (p := 96) rfl jM100 jq100_95 (ja_91 hF) c1.1 c1.2 ?_
  refine jw_if (p := 99) rfl jM100 jq100_96 (jc_ne (jb_r_i _ _ _) jb_r0) (fun c2 => ?_) (fun c2 => ?_)
  · have h2 := h1.1 c2
    refine jiI1 (p := 117) rfl jM100 jq100_114 ?_
    refine jw_goto jM100 jq100_117 ?_
    exact h2
  · have h2 := h1.2 c2
    refine jiL2 (p := 100) rfl jM100 jq100_99 ?_
    refine jw_iconst (p := 101) rfl jM100 jq100_100 ?_
    refine jw_ic (p := 104) rfl jM100 jq100_101 (jc_eq hs0 (jb_rn rfl)) (fun c3 => ?_) (fun c3 => ?_)
    · have h3 := h2.1 c3
      refine jiI1 (p := 117) rfl jM100 jq100_114 ?_
      refine jw_goto jM100 jq100_117 ?_
      exact h3
    · have h3 := h2.2 c3
      refine jiL2 (p := 105) rfl jM100 jq100_104 ?_
      refine jw_if (p := 108) rfl jM100 jq100_105 (jc_eq hs0 jb_r0) (fun c4 => ?_) (fun c4 => ?_)
      · have h4 := h3.1 c4
        refine jiI1 (p := 117) rfl jM100 jq100_114 ?_
        refine jw_goto jM100 jq100_117 ?_
        exact h4
      · have h4 := h3.2 c4
        refine jaL0 (p := 109) rfl jM100 jq100_108 ?_
        refine jw_bipush (p := 111) rfl jM100 jq100_109 (by decide) ?_
        refine jw_callV [(jb_v 6)] jM100 jq100_111 rfl rfl (jo_86 hF) rfl jM101 rfl rfl ?_
        exact h4
-- 101 PageLoom$Walk.fault(I)V
theorem jk101_0 {d : Nat} {σ : ib_H} {Q : ib_O → Prop} {l1 : Int} (hF : jb_F σ) (hl1 : jb_r l1)
    (h : (jb_i σ 86 10 ≤ l1 → Q (.inl none, σ)) ∧ (¬ (jb_i σ 86 10 ≤ l1) → Q (.inl none, jb_si σ 86 10 l1))) :
    jb_w d 101 0 [some (.ref 86), some (jb_v l1)] [] σ Q := by
  refine jiL1 (p := 1) rfl jM101 jq101_0 ?_
  refine jaL0 (p := 2) rfl jM101 jq101_1 ?_
  refine jw_getI (p := 5) (i := 10) rfl jM101 jq101_2 rfl (jo_86 hF) jn_9_10 ?_
  refine jw_ic (p := 8) rfl jM101 jq101_5 (jc_ge hl1 (jb_r_i _ _ _)) (fun c1 => ?_) (fun c1 => ?_)
  · have h1 := h.1 c1
    exact jw_vret jM101 jq101_13 h1
  · have h1 := h.2 c1
    refine jaL0 (p := 9) rfl jM101 jq101_8 ?_
    refine jiL1 (p := 10) rfl jM101 jq101_9 ?_
    refine jw_putI (p := 13) (i := 10) rfl jM101 jq101_10 rfl (jo_86 hF) (Or.inl jz_9_10) ?_
    exact jw_vret jM101 jq101_13 h1
-- 102 PageLoom$Walk.meet(IIII)V
theorem jk102_0 {d : Nat} {σ : ib_H} {Q : ib_O → Prop} {l1 : Int} {l2 : Int} {l3 : Int} {l4 : Int} (hF : jb_F σ) (hl1 : jb_r l1) (hl2 : jb_r l2) (hl3 : jb_r l3) (hl4 : jb_r l4)
    (h : (l1 < 0 → jb_w d 101 0 [some (.ref 86), some (jb_v 2)] [] σ (jb_k (d + 1) 102 30 [some (.ref 86), some (jb_v l1), some (jb_v l2), some (jb_v l3), some (jb_v l4)] [] Q)) ∧ (¬ (l1 < 0) → (24 ≤ l1 → jb_w d 101 0 [some (.ref 86), some (jb_v 2)] [] σ (jb_k (d + 1) 102 30 [some (.ref 86), some (jb_v l1), some (jb_v l2), some (jb_v l3), some (jb_v l4)] [] Q)) ∧ (¬ (24 ≤ l1) → (0 ≤ l1 ∧ l1 < 24) ∧ ((¬ jb_i σ 91 l1 = 0 → jb_w d 101 0 [some (.ref 86), some (jb_v 2)] [] σ (jb_k (d + 1) 102 30 [some (.ref 86), some (jb_v l1), some (jb_v l2), some (jb_v l3), some (jb_v l4)] [] Q)) ∧ (¬ (¬ jb_i σ 91 l1 = 0) → (jb_i σ 86 8 < 24 → (0 ≤ (jb_i (jb_si σ 91 l1 1) 86 8) ∧ (jb_i (jb_si σ 91 l1 1) 86 8) < 24) ∧ ((0 ≤ (jb_i (jb_si (jb_si σ 91 l1 1) 87 (jb_i (jb_si σ 91 l1 1) 86 8) l1) 86 8) ∧ (jb_i (jb_si (jb_si σ 91 l1 1) 87 (jb_i (jb_si σ 91 l1 1) 86 8) l1) 86 8) < 24) ∧ ((0 ≤ (jb_i (jb_si (jb_si (jb_si σ 91 l1 1) 87 (jb_i (jb_si σ 91 l1 1) 86 8) l1) 88 (jb_i (jb_si (jb_si σ 91 l1 1) 87 (jb_i (jb_si σ 91 l1 1) 86 8) l1) 86 8) l2) 86 8) ∧ (jb_i (jb_si (jb_si (jb_si σ 91 l1 1) 87 (jb_i (jb_si σ 91 l1 1) 86 8) l1) 88 (jb_i (jb_si (jb_si σ 91 l1 1) 87 (jb_i (jb_si σ 91 l1 1) 86 8) l1) 86 8) l2) 86 8) < 24) ∧ ((0 ≤ (jb_i (jb_si (jb_si (jb_si (jb_si σ 91 l1 1) 87 (jb_i (jb_si σ 91 l1 1) 86 8) l1) 88 (jb_i (jb_si (jb_si σ 91 l1 1) 87 (jb_i (jb_si σ 91 l1 1) 86 8) l1) 86 8) l2) 89 (jb_i (jb_si (jb_si (jb_si σ 91 l1 1) 87 (jb_i (jb_si σ 91 l1 1) 86 8) l1) 88 (jb_i (jb_si (jb_si σ 91 l1 1) 87 (jb_i (jb_si σ 91 l1 1) 86 8) l1) 86 8) l2) 86 8) l3) 86 8) ∧ (jb_i (jb_si (jb_si (jb_si (jb_si σ 91 l1 1) 87 (jb_i (jb_si σ 91 l1 1) 86 8) l1) 88 (jb_i (jb_si (jb_si σ 91 l1 1) 87 (jb_i (jb_si σ 91 l1 1) 86 8) l1) 86 8) l2) 89 (jb_i (jb_si (jb_si (jb_si σ 91 l1 1) 87 (jb_i (jb_si σ 91 l1 1) 86 8) l1) 88 (jb_i (jb_si (jb_si σ 91 l1 1) 87 (jb_i (jb_si σ 91 l1 1) 86 8) l1) 86 8) l2) 86 8) l3) 86 8) < 24) ∧ (Q (.inl none, jb_si (jb_si (jb_si (jb_si (jb_si (jb_si σ 91 l1 1) 87 (jb_i (jb_si σ 91 l1 1) 86 8) l1) 88 (jb_i (jb_si (jb_si σ 91 l1 1) 87 (jb_i (jb_si σ 91 l1 1) 86 8) l1) 86 8) l2) 89 (jb_i (jb_si (jb_si (jb_si σ 91 l1 1) 87 (jb_i (jb_si σ 91 l1 1) 86 8) l1) 88 (jb_i (jb_si (jb_si σ 91 l1 1) 87 (jb_i (jb_si σ 91 l1 1) 86 8) l1) 86 8) l2) 86 8) l3) 90 (jb_i (jb_si (jb_si (jb_si (jb_si σ 91 l1 1) 87 (jb_i (jb_si σ 91 l1 1) 86 8) l1) 88 (jb_i (jb_si (jb_si σ 91 l1 1) 87 (jb_i (jb_si σ 91 l1 1) 86 8) l1) 86 8) l2) 89 (jb_i (jb_si (jb_si (jb_si σ 91 l1 1) 87 (jb_i (jb_si σ 91 l1 1) 86 8) l1) 88 (jb_i (jb_si (jb_si σ 91 l1 1) 87 (jb_i (jb_si σ 91 l1 1) 86 8) l1) 86 8) l2) 86 8) l3) 86 8) l4) 86 8 ((jb_i (jb_si (jb_si (jb_si (jb_si (jb_si σ 91 l1 1) 87 (jb_i (jb_si σ 91 l1 1) 86 8) l1) 88 (jb_i (jb_si (jb_si σ 91 l1 1) 87 (jb_i (jb_si σ 91 l1 1) 86 8) l1) 86 8) l2) 89 (jb_i (jb_si (jb_si (jb_si σ 91 l1 1) 87 (jb_i (jb_si σ 91 l1 1) 86 8) l1) 88 (jb_i (jb_si (jb_si σ 91 l1 1) 87 (jb_i (jb_si σ 91 l1 1) 86 8) l1) 86 8) l2) 86 8) l3) 90 (jb_i (jb_si (jb_si (jb_si (jb_si σ 91 l1 1) 87 (jb_i (jb_si σ 91 l1 1) 86 8) l1) 88 (jb_i (jb_si (jb_si σ 91 l1 1) 87 (jb_i (jb_si σ 91 l1 1) 86 8) l1) 86 8) l2) 89 (jb_i (jb_si (jb_si (jb_si σ 91 l1 1) 87 (jb_i (jb_si σ 91 l1 1) 86 8) l1) 88 (jb_i (jb_si (jb_si σ 91 l1 1) 87 (jb_i (jb_si σ 91 l1 1) 86 8) l1) 86 8) l2) 86 8) l3) 86 8) l4) 86 8) + 1))))))) ∧ (¬ (jb_i σ 86 8 < 24) → jb_w d 101 0 [some (.ref 86), some (jb_v 2)] [] σ (jb_k (d + 1) 102 30 [some (.ref 86), some (jb_v l1), some (jb_v l2), some (jb_v l3), some (jb_v l4)] [] Q))))))) :
    jb_w (d + 1) 102 0 [some (.ref 86), some (jb_v l1), some (jb_v l2), some (jb_v l3), some (jb_v l4)] [] σ Q := by
  refine jiL1 (p := 1) rfl jM102 jq102_0 ?_
  refine jw_if (p := 4) rfl jM102 jq102_1 (jc_lt hl1 jb_r0) (fun c1 => ?_) (fun c1 => ?_)
  · have h1 := h.1 c1
    refine jaL0 (p := 29) rfl jM102 jq102_28 ?_
    refine jw_iconst (p := 30) rfl jM102 jq102_29 ?_
    refine jw_callV [(jb_v 2)] jM102 jq102_30 rfl rfl (jo_86 hF) rfl jM101 rfl rfl ?_
    exact h1
  · have h1 := h.2 c1
    refine jiL1 (p := 5) rfl jM102 jq102_4 ?_
    refine jw_bipush (p := 7) rfl jM102 jq102_5 (by decide) ?_
    refine jw_ic (p := 10) rfl jM102 jq102_7 (jc_ge hl1 (jb_rn rfl)) (fun c2 => ?_) (fun c2 => ?_)
    · have h2 := h1.1 c2
      refine jaL0 (p := 29) rfl jM102 jq102_28 ?_
      refine jw_iconst (p := 30) rfl jM102 jq102_29 ?_
      refine jw_callV [(jb_v 2)] jM102 jq102_30 rfl rfl (jo_86 hF) rfl jM101 rfl rfl ?_
      exact h2
    · have h2 := h1.2 c2
      refine jaL0 (p := 11) rfl jM102 jq102_10 ?_
      refine jw_getP (p := 14) (i := 7) (q := 91) rfl jM102 jq102_11 rfl (jo_86 hF) je_9_7 (jp_86_7 hF) ?_
      refine jiL1 (p := 15) rfl jM102 jq102_14 ?_
      obtain ⟨c3, h3⟩ := h2
      refine jw_bald (p := 16) rfl jM102 jq102_15 (ja_91 hF) c3.1 c3.2 ?_
      refine jw_if (p := 19) rfl jM102 jq102_16 (jc_ne (jb_r_i _ _ _) jb_r0) (fun c4 => ?_) (fun c4 => ?_)
      · have h4 := h3.1 c4
        refine jaL0 (p := 29) rfl jM102 jq102_28 ?_
        refine jw_iconst (p := 30) rfl jM102 jq102_29 ?_
        refine jw_callV [(jb_v 2)] jM102 jq102_30 rfl rfl (jo_86 hF) rfl jM101 rfl rfl ?_
        exact h4
      · have h4 := h3.2 c4
        refine jaL0 (p := 20) rfl jM102 jq102_19 ?_
        refine jw_getI (p := 23) (i := 8) rfl jM102 jq102_20 rfl (jo_86 hF) jn_9_8 ?_
        refine jw_bipush (p := 25) rfl jM102 jq102_23 (by decide) ?_
        refine jw_ic (p := 28) rfl jM102 jq102_25 (jc_lt (jb_r_i _ _ _) (jb_rn rfl)) (fun c5 => ?_) (fun c5 => ?_)
        · have h5 := h4.1 c5
          refine jaL0 (p := 35) rfl jM102 jq102_34 ?_
          refine jw_getP (p := 38) (i := 7) (q := 91) rfl jM102 jq102_35 rfl (jo_86 hF) je_9_7 (jp_86_7 hF) ?_
          refine jiL1 (p := 39) rfl jM102 jq102_38 ?_
          refine jw_iconst (p := 40) rfl jM102 jq102_39 ?_
          refine jw_bast (p := 41) rfl jM102 jq102_40 (ja_91 hF) c3.1 c3.2 (Or.inr rfl) ?_
          refine jaL0 (p := 42) rfl jM102 jq102_41 ?_
          refine jw_getP (p := 45) (i := 3) (q := 87) rfl jM102 jq102_42 rfl (jo_86 hF) je_9_3 (jp_86_3 hF) ?_
          refine jaL0 (p := 46) rfl jM102 jq102_45 ?_
          refine jw_getI (p := 49) (i := 8) rfl jM102 jq102_46 rfl (jo_86 hF) jn_9_8 ?_
          refine jiL1 (p := 50) rfl jM102 jq102_49 ?_
          obtain ⟨c6, h6⟩ := h5
          refine jw_iast (p := 51) rfl jM102 jq102_50 (ja_87 hF) c6.1 c6.2 ?_
          refine jaL0 (p := 52) rfl jM102 jq102_51 ?_
          refine jw_getP (p := 55) (i := 4) (q := 88) rfl jM102 jq102_52 rfl (jo_86 hF) je_9_4 (jp_86_4 hF) ?_
          refine jaL0 (p := 56) rfl jM102 jq102_55 ?_
          refine jw_getI (p := 59) (i := 8) rfl jM102 jq102_56 rfl (jo_86 hF) jn_9_8 ?_
          refine jiL2 (p := 60) rfl jM102 jq102_59 ?_
          obtain ⟨c7, h7⟩ := h6
          refine jw_iast (p := 61) rfl jM102 jq102_60 (ja_88 hF) c7.1 c7.2 ?_
          refine jaL0 (p := 62) rfl jM102 jq102_61 ?_
          refine jw_getP (p := 65) (i := 5) (q := 89) rfl jM102 jq102_62 rfl (jo_86 hF) je_9_5 (jp_86_5 hF) ?_
          refine jaL0 (p := 66) rfl jM102 jq102_65 ?_
          refine jw_getI (p := 69) (i := 8) rfl jM102 jq102_66 rfl (jo_86 hF) jn_9_8 ?_
          refine jiL3 (p := 70) rfl jM102 jq102_69 ?_
          obtain ⟨c8, h8⟩ := h7
          refine jw_iast (p := 71) rfl jM102 jq102_70 (ja_89 hF) c8.1 c8.2 ?_
          refine jaL0 (p := 72) rfl jM102 jq102_71 ?_
          refine jw_getP (p := 75) (i := 6) (q := 90) rfl jM102 jq102_72 rfl (jo_86 hF) je_9_6 (jp_86_6 hF) ?_
          refine jaL0 (p := 76) rfl jM102 jq102_75 ?_
          refine jw_getI (p := 79) (i := 8) rfl jM102 jq102_76 rfl (jo_86 hF) jn_9_8 ?_
          refine jiL4 (p := 81) rfl jM102 jq102_79 ?_
          obtain ⟨c9, h9⟩ := h8
          refine jw_iast (p := 82) rfl jM102 jq102_81 (ja_90 hF) c9.1 c9.2 ?_
          refine jaL0 (p := 83) rfl jM102 jq102_82 ?_
          refine jw_dupA (p := 84) rfl jM102 jq102_83 ?_
          refine jw_getI (p := 87) (i := 8) rfl jM102 jq102_84 rfl (jo_86 hF) jn_9_8 ?_
          refine jw_iconst (p := 88) rfl jM102 jq102_87 ?_
          refine jw_iadd (p := 89) rfl jM102 jq102_88 ?_
          refine jw_putI (p := 92) (i := 8) rfl jM102 jq102_89 rfl (jo_86 hF) (Or.inl jz_9_8) ?_
          exact jw_vret jM102 jq102_92 h9
        · have h5 := h4.2 c5
          refine jaL0 (p := 29) rfl jM102 jq102_28 ?_
          refine jw_iconst (p := 30) rfl jM102 jq102_29 ?_
          refine jw_callV [(jb_v 2)] jM102 jq102_30 rfl rfl (jo_86 hF) rfl jM101 rfl rfl ?_
          exact h5
theorem jk102_33 {d : Nat} {σ : ib_H} {Q : ib_O → Prop} {l1 : Int} {l2 : Int} {l3 : Int} {l4 : Int} (hF : jb_F σ) (hl1 : jb_r l1) (hl2 : jb_r l2) (hl3 : jb_r l3) (hl4 : jb_r l4)
    (h : Q (.inl none, σ)) :
    jb_w d 102 33 [some (.ref 86), some (jb_v l1), some (jb_v l2), some (jb_v l3), some (jb_v l4)] [] σ Q := by
  exact jw_vret jM102 jq102_33 h
-- 103 PageLoom$Walk.lookInto(I)V
theorem jk103_0 {d : Nat} {σ : ib_H} {Q : ib_O → Prop} {l1 : Int} (hF : jb_F σ) (hl1 : jb_r l1)
    (h : (0 ≤ l1 ∧ l1 < 24) ∧ (jb_w d 3 0 [some (.ref 66), some (jb_v (jb_i σ 87 l1)), none] [] σ (jb_k (d + 1) 103 10 [some (.ref 86), some (jb_v l1), none] [] Q))) :
    jb_w (d + 1) 103 0 [some (.ref 86), some (jb_v l1), none] [] σ Q := by
  refine jaL0 (p := 1) rfl jM103 jq103_0 ?_
  refine jw_getP (p := 4) (i := 0) (q := 66) rfl jM103 jq103_1 rfl (jo_86 hF) je_9_0 (jp_86_0 hF) ?_
  refine jaL0 (p := 5) rfl jM103 jq103_4 ?_
  refine jw_getP (p := 8) (i := 3) (q := 87) rfl jM103 jq103_5 rfl (jo_86 hF) je_9_3 (jp_86_3 hF) ?_
  refine jiL1 (p := 9) rfl jM103 jq103_8 ?_
  obtain ⟨c1, h1⟩ := h
  refine jw_iald (p := 10) rfl jM103 jq103_9 (ja_87 hF) c1.1 c1.2 ?_
  refine jw_callV [(jb_v (jb_i σ 87 l1))] jM103 jq103_10 rfl rfl (jo_66 hF) rfl jM3 rfl rfl ?_
  exact h1
theorem jk103_13 {d : Nat} {σ : ib_H} {Q : ib_O → Prop} {l1 : Int} {s0 : Nat} (hF : jb_F σ) (hl1 : jb_r l1) (hs0 : s0 ≠ 0 → jb_pg σ s0)
    (h : (¬ s0 = 0 → (¬ jb_i σ s0 0 = 0 → (¬ jb_i σ s0 0 = 1 → jb_w d 105 0 [some (.ref 86), some (jb_v l1), some (.ref s0), none, none, none, none] [] σ (jb_k (d + 1) 103 61 [some (.ref 86), some (jb_v l1), some (.ref s0)] [] Q)) ∧ (¬ (¬ jb_i σ s0 0 = 1) → jb_w d 104 0 [some (.ref 86), some (jb_v l1), some (.ref s0), none, none] [] σ (jb_k (d + 1) 103 52 [some (.ref 86), some (jb_v l1), some (.ref s0)] [] Q))) ∧ (¬ (¬ jb_i σ s0 0 = 0) → jb_w d 101 0 [some (.ref 86), some (jb_v 2)] [] σ (jb_k (d + 1) 103 35 [some (.ref 86), some (jb_v l1), some (.ref s0)] [] Q))) ∧ (s0 = 0 → jb_w d 101 0 [some (.ref 86), some (jb_v 1)] [] σ (jb_k (d + 1) 103 20 [some (.ref 86), some (jb_v l1), some (.ref s0)] [] Q))) :
    jb_w (d + 1) 103 13 [some (.ref 86), some (jb_v l1), none] [(.ref s0)] σ Q := by
  refine jaS2 (p := 14) rfl jM103 jq103_13 ?_
  refine jaL2 (p := 15) rfl jM103 jq103_14 ?_
  refine jw_ifnonnull (p := 18) rfl jM103 jq103_15 (fun c1 => ?_) (fun c1 => ?_)
  · have h1 := h.1 c1
    refine jaL2 (p := 27) rfl jM103 jq103_26 ?_
    refine jw_getI (p := 30) (i := 0) rfl jM103 jq103_27 rfl (hs0 c1).ob jn_4_0 ?_
    refine jw_if (p := 33) rfl jM103 jq103_30 (jc_ne (jb_r_i _ _ _) jb_r0) (fun c2 => ?_) (fun c2 => ?_)
    · have h2 := h1.1 c2
      refine jaL2 (p := 42) rfl jM103 jq103_41 ?_
      refine jw_getI (p := 45) (i := 0) rfl jM103 jq103_42 rfl (hs0 c1).ob jn_4_0 ?_
      refine jw_iconst (p := 46) rfl jM103 jq103_45 ?_
      refine jw_ic (p := 49) rfl jM103 jq103_46 (jc_ne (jb_r_i _ _ _) (jb_rn rfl)) (fun c3 => ?_) (fun c3 => ?_)
      · have h3 := h2.1 c3
        refine jaL0 (p := 59) rfl jM103 jq103_58 ?_
        refine jiL1 (p := 60) rfl jM103 jq103_59 ?_
        refine jaL2 (p := 61) rfl jM103 jq103_60 ?_
        refine jw_callV [(jb_v l1), (.ref s0)] jM103 jq103_61 rfl rfl (jo_86 hF) rfl jM105 rfl rfl ?_
        exact h3
      · have h3 := h2.2 c3
        refine jaL0 (p := 50) rfl jM103 jq103_49 ?_
        refine jiL1 (p := 51) rfl jM103 jq103_50 ?_
        refine jaL2 (p := 52) rfl jM103 jq103_51 ?_
        refine jw_callV [(jb_v l1), (.ref s0)] jM103 jq103_52 rfl rfl (jo_86 hF) rfl jM104 rfl rfl ?_
        exact h3
    · have h2 := h1.2 c2
      refine jaL0 (p := 34) rfl jM103 jq103_33 ?_
      refine jw_iconst (p := 35) rfl jM103 jq103_34 ?_
      refine jw_callV [(jb_v 2)] jM103 jq103_35 rfl rfl (jo_86 hF) rfl jM101 rfl rfl ?_
      exact h2
  · have h1 := h.2 c1
    refine jaL0 (p := 19) rfl jM103 jq103_18 ?_
    refine jw_iconst (p := 20) rfl jM103 jq103_19 ?_
    refine jw_callV [(jb_v 1)] jM103 jq103_20 rfl rfl (jo_86 hF) rfl jM101 rfl rfl ?_
    exact h1
theorem jk103_64 {d : Nat} {σ : ib_H} {Q : ib_O → Prop} {l1 : Int} {l2 : Nat} (hF : jb_F σ) (hl1 : jb_r l1) (hl2 : l2 ≠ 0 → jb_pg σ l2)
    (h : Q (.inl none, σ)) :
    jb_w d 103 64 [some (.ref 86), some (jb_v l1), some (.ref l2)] [] σ Q := by
  exact jw_vret jM103 jq103_64 h
theorem jk103_55 {d : Nat} {σ : ib_H} {Q : ib_O → Prop} {l1 : Int} {l2 : Nat} (hF : jb_F σ) (hl1 : jb_r l1) (hl2 : l2 ≠ 0 → jb_pg σ l2)
    (h : Q (.inl none, σ)) :
    jb_w d 103 55 [some (.ref 86), some (jb_v l1), some (.ref l2)] [] σ Q := by
  refine jw_goto jM103 jq103_55 ?_
  exact jw_vret jM103 jq103_64 h
theorem jk103_38 {d : Nat} {σ : ib_H} {Q : ib_O → Prop} {l1 : Int} {l2 : Nat} (hF : jb_F σ) (hl1 : jb_r l1) (hl2 : l2 ≠ 0 → jb_pg σ l2)
    (h : Q (.inl none, σ)) :
    jb_w d 103 38 [some (.ref 86), some (jb_v l1), some (.ref l2)] [] σ Q := by
  refine jw_goto jM103 jq103_38 ?_
  exact jw_vret jM103 jq103_64 h
theorem jk103_23 {d : Nat} {σ : ib_H} {Q : ib_O → Prop} {l1 : Int} {l2 : Nat} (hF : jb_F σ) (hl1 : jb_r l1) (hl2 : l2 ≠ 0 → jb_pg σ l2)
    (h : Q (.inl none, σ)) :
    jb_w d 103 23 [some (.ref 86), some (jb_v l1), some (.ref l2)] [] σ Q := by
  refine jw_goto jM103 jq103_23 ?_
  exact jw_vret jM103 jq103_64 h
-- 104 PageLoom$Walk.lookIntoLeaf(ILPageLoom$Page;)V
theorem jk104_0 {d : Nat} {σ : ib_H} {Q : ib_O → Prop} {l1 : Int} {l2 : Nat} (hF : jb_F σ) (hl1 : jb_r l1) (hl2 : l2 ≠ 0 → jb_pg σ l2)
    (h : (jb_i σ 86 9 = (-1) → (0 ≤ l1 ∧ l1 < 24) ∧ ((l2 ≠ 0) ∧ ((¬ jb_i (jb_si σ 86 9 (jb_i σ 88 l1)) l2 2 = 0 → jb_w (d + 1) 104 59 [some (.ref 86), some (jb_v l1), some (.ref l2), some (jb_v 0), none] [] (jb_si σ 86 9 (jb_i σ 88 l1)) Q) ∧ (¬ (¬ jb_i (jb_si σ 86 9 (jb_i σ 88 l1)) l2 2 = 0) → (jb_i (jb_si σ 86 9 (jb_i σ 88 l1)) 87 l1 = 0 → jb_w (d + 1) 104 59 [some (.ref 86), some (jb_v l1), some (.ref l2), some (jb_v 0), none] [] (jb_si σ 86 9 (jb_i σ 88 l1)) Q) ∧ (¬ (jb_i (jb_si σ 86 9 (jb_i σ 88 l1)) 87 l1 = 0) → jb_w d 101 0 [some (.ref 86), some (jb_v 5)] [] (jb_si σ 86 9 (jb_i σ 88 l1)) (jb_k (d + 1) 104 54 [some (.ref 86), some (jb_v l1), some (.ref l2), none, none] [] Q)))))) ∧ (¬ (jb_i σ 86 9 = (-1)) → (0 ≤ l1 ∧ l1 < 24) ∧ ((jb_i σ 86 9 = jb_i σ 88 l1 → (l2 ≠ 0) ∧ ((¬ jb_i (jb_si σ 86 9 (jb_i σ 88 l1)) l2 2 = 0 → jb_w (d + 1) 104 59 [some (.ref 86), some (jb_v l1), some (.ref l2), some (jb_v 0), none] [] (jb_si σ 86 9 (jb_i σ 88 l1)) Q) ∧ (¬ (¬ jb_i (jb_si σ 86 9 (jb_i σ 88 l1)) l2 2 = 0) → (jb_i (jb_si σ 86 9 (jb_i σ 88 l1)) 87 l1 = 0 → jb_w (d + 1) 104 59 [some (.ref 86), some (jb_v l1), some (.ref l2), some (jb_v 0), none] [] (jb_si σ 86 9 (jb_i σ 88 l1)) Q) ∧ (¬ (jb_i (jb_si σ 86 9 (jb_i σ 88 l1)) 87 l1 = 0) → jb_w d 101 0 [some (.ref 86), some (jb_v 5)] [] (jb_si σ 86 9 (jb_i σ 88 l1)) (jb_k (d + 1) 104 54 [some (.ref 86), some (jb_v l1), some (.ref l2), none, none] [] Q))))) ∧ (¬ (jb_i σ 86 9 = jb_i σ 88 l1) → jb_w d 101 0 [some (.ref 86), some (jb_v 4)] [] σ (jb_k (d + 1) 104 23 [some (.ref 86), some (jb_v l1), some (.ref l2), none, none] [] Q))))) :
    jb_w (d + 1) 104 0 [some (.ref 86), some (jb_v l1), some (.ref l2), none, none] [] σ Q := by
  refine jaL0 (p := 1) rfl jM104 jq104_0 ?_
  refine jw_getI (p := 4) (i := 9) rfl jM104 jq104_1 rfl (jo_86 hF) jn_9_9 ?_
  refine jw_iconst (p := 5) rfl jM104 jq104_4 ?_
  refine jw_ic (p := 8) rfl jM104 jq104_5 (jc_eq (jb_r_i _ _ _) (jb_rn rfl)) (fun c1 => ?_) (fun c1 => ?_)
  · have h1 := h.1 c1
    refine jaL0 (p := 27) rfl jM104 jq104_26 ?_
    refine jaL0 (p := 28) rfl jM104 jq104_27 ?_
    refine jw_getP (p := 31) (i := 4) (q := 88) rfl jM104 jq104_28 rfl (jo_86 hF) je_9_4 (jp_86_4 hF) ?_
    refine jiL1 (p := 32) rfl jM104 jq104_31 ?_
    obtain ⟨c2, h2⟩ := h1
    refine jw_iald (p := 33) rfl jM104 jq104_32 (ja_88 hF) c2.1 c2.2 ?_
    refine jw_putI (p := 36) (i := 9) rfl jM104 jq104_33 rfl (jo_86 hF) (Or.inl jz_9_9) ?_
    refine jaL2 (p := 37) rfl jM104 jq104_36 ?_
    obtain ⟨c3, h3⟩ := h2
    refine jw_getI (p := 40) (i := 2) rfl jM104 jq104_37 rfl (hl2 c3).ob jn_4_2 ?_
    refine jw_if (p := 43) rfl jM104 jq104_40 (jc_ne (jb_r_i _ _ _) jb_r0) (fun c4 => ?_) (fun c4 => ?_)
    · have h4 := h3.1 c4
      refine jw_iconst (p := 58) rfl jM104 jq104_57 ?_
      refine jiS3 (p := 59) rfl jM104 jq104_58 ?_
      exact h4
    · have h4 := h3.2 c4
      refine jaL0 (p := 44) rfl jM104 jq104_43 ?_
      refine jw_getP (p := 47) (i := 3) (q := 87) rfl jM104 jq104_44 rfl (jo_86 hF) je_9_3 (jp_86_3 hF) ?_
      refine jiL1 (p := 48) rfl jM104 jq104_47 ?_
      refine jw_iald (p := 49) rfl jM104 jq104_48 (ja_87 hF) c2.1 c2.2 ?_
      refine jw_if (p := 52) rfl jM104 jq104_49 (jc_eq (jb_r_i _ _ _) jb_r0) (fun c5 => ?_) (fun c5 => ?_)
      · have h5 := h4.1 c5
        refine jw_iconst (p := 58) rfl jM104 jq104_57 ?_
        refine jiS3 (p := 59) rfl jM104 jq104_58 ?_
        exact h5
      · have h5 := h4.2 c5
        refine jaL0 (p := 53) rfl jM104 jq104_52 ?_
        refine jw_iconst (p := 54) rfl jM104 jq104_53 ?_
        refine jw_callV [(jb_v 5)] jM104 jq104_54 rfl rfl (jo_86 hF) rfl jM101 rfl rfl ?_
        exact h5
  · have h1 := h.2 c1
    refine jaL0 (p := 9) rfl jM104 jq104_8 ?_
    refine jw_getI (p := 12) (i := 9) rfl jM104 jq104_9 rfl (jo_86 hF) jn_9_9 ?_
    refine jaL0 (p := 13) rfl jM104 jq104_12 ?_
    refine jw_getP (p := 16) (i := 4) (q := 88) rfl jM104 jq104_13 rfl (jo_86 hF) je_9_4 (jp_86_4 hF) ?_
    refine jiL1 (p := 17) rfl jM104 jq104_16 ?_
    obtain ⟨c6, h6⟩ := h1
    refine jw_iald (p := 18) rfl jM104 jq104_17 (ja_88 hF) c6.1 c6.2 ?_
    refine jw_ic (p := 21) rfl jM104 jq104_18 (jc_eq (jb_r_i _ _ _) (jb_r_i _ _ _)) (fun c7 => ?_) (fun c7 => ?_)
    · have h7 := h6.1 c7
      refine jaL0 (p := 27) rfl jM104 jq104_26 ?_
      refine jaL0 (p := 28) rfl jM104 jq104_27 ?_
      refine jw_getP (p := 31) (i := 4) (q := 88) rfl jM104 jq104_28 rfl (jo_86 hF) je_9_4 (jp_86_4 hF) ?_
      refine jiL1 (p := 32) rfl jM104 jq104_31 ?_
      refine jw_iald (p := 33) rfl jM104 jq104_32 (ja_88 hF) c6.1 c6.2 ?_
      refine jw_putI (p := 36) (i := 9) rfl jM104 jq104_33 rfl (jo_86 hF) (Or.inl jz_9_9) ?_
      refine jaL2 (p := 37) rfl jM104 jq104_36 ?_
      obtain ⟨c8, h8⟩ := h7
      refine jw_getI (p := 40) (i := 2) rfl jM104 jq104_37 rfl (hl2 c8).ob jn_4_2 ?_
      refine jw_if (p := 43) rfl jM104 jq104_40 (jc_ne (jb_r_i _ _ _) jb_r0) (fun c9 => ?_) (fun c9 => ?_)
      · have h9 := h8.1 c9
        refine jw_iconst (p := 58) rfl jM104 jq104_57 ?_
        refine jiS3 (p := 59) rfl jM104 jq104_58 ?_
        exact h9
      · have h9 := h8.2 c9
        refine jaL0 (p := 44) rfl jM104 jq104_43 ?_
        refine jw_getP (p := 47) (i := 3) (q := 87) rfl jM104 jq104_44 rfl (jo_86 hF) je_9_3 (jp_86_3 hF) ?_
        refine jiL1 (p := 48) rfl jM104 jq104_47 ?_
        refine jw_iald (p := 49) rfl jM104 jq104_48 (ja_87 hF) c6.1 c6.2 ?_
        refine jw_if (p := 52) rfl jM104 jq104_49 (jc_eq (jb_r_i _ _ _) jb_r0) (fun c10 => ?_) (fun c10 => ?_)
        · have h10 := h9.1 c10
          refine jw_iconst (p := 58) rfl jM104 jq104_57 ?_
          refine jiS3 (p := 59) rfl jM104 jq104_58 ?_
          exact h10
        · have h10 := h9.2 c10
          refine jaL0 (p := 53) rfl jM104 jq104_52 ?_
          refine jw_iconst (p := 54) rfl jM104 jq104_53 ?_
          refine jw_callV [(jb_v 5)] jM104 jq104_54 rfl rfl (jo_86 hF) rfl jM101 rfl rfl ?_
          exact h10
    · have h7 := h6.2 c7
      refine jaL0 (p := 22) rfl jM104 jq104_21 ?_
      refine jw_iconst (p := 23) rfl jM104 jq104_22 ?_
      refine jw_callV [(jb_v 4)] jM104 jq104_23 rfl rfl (jo_86 hF) rfl jM101 rfl rfl ?_
      exact h7
theorem jk104_59 {d : Nat} {σ : ib_H} {Q : ib_O → Prop} {l1 : Int} {l2 : Nat} {l3 : Int} (hF : jb_F σ) (hl1 : jb_r l1) (hl2 : l2 ≠ 0 → jb_pg σ l2) (hl3 : jb_r l3)
    (h : (l2 ≠ 0) ∧ ((jb_i σ l2 2 ≤ l3 → Q (.inl none, σ)) ∧ (¬ (jb_i σ l2 2 ≤ l3) → jb_w d 38 0 [some (.ref l2), some (jb_v l3), none] [] σ (jb_k (d + 1) 104 69 [some (.ref 86), some (jb_v l1), some (.ref l2), some (jb_v l3), none] [] Q)))) :
    jb_w (d + 1) 104 59 [some (.ref 86), some (jb_v l1), some (.ref l2), some (jb_v l3), none] [] σ Q := by
  refine jiL3 (p := 60) rfl jM104 jq104_59 ?_
  refine jaL2 (p := 61) rfl jM104 jq104_60 ?_
  obtain ⟨c1, h1⟩ := h
  refine jw_getI (p := 64) (i := 2) rfl jM104 jq104_61 rfl (hl2 c1).ob jn_4_2 ?_
  refine jw_ic (p := 67) rfl jM104 jq104_64 (jc_ge hl3 (jb_r_i _ _ _)) (fun c2 => ?_) (fun c2 => ?_)
  · have h2 := h1.1 c2
    exact jw_vret jM104 jq104_123 h2
  · have h2 := h1.2 c2
    refine jaL2 (p := 68) rfl jM104 jq104_67 ?_
    refine jiL3 (p := 69) rfl jM104 jq104_68 ?_
    refine jw_callV [(jb_v l3)] jM104 jq104_69 rfl rfl (hl2 c1).ob rfl jM38 rfl rfl ?_
    exact h2
theorem jk104_57 {d : Nat} {σ : ib_H} {Q : ib_O → Prop} {l1 : Int} {l2 : Nat} (hF : jb_F σ) (hl1 : jb_r l1) (hl2 : l2 ≠ 0 → jb_pg σ l2)
    (h : jb_w d 104 59 [some (.ref 86), some (jb_v l1), some (.ref l2), some (jb_v 0), none] [] σ Q) :
    jb_w d 104 57 [some (.ref 86), some (jb_v l1), some (.ref l2), none, none] [] σ Q := by
  refine jw_iconst (p := 58) rfl jM104 jq104_57 ?_
  refine jiS3 (p := 59) rfl jM104 jq104_58 ?_
  exact h
theorem jk104_26 {d : Nat} {σ : ib_H} {Q : ib_O → Prop} {l1 : Int} {l2 : Nat} (hF : jb_F σ) (hl1 : jb_r l1) (hl2 : l2 ≠ 0 → jb_pg σ l2)
    (h : (0 ≤ l1 ∧ l1 < 24) ∧ ((l2 ≠ 0) ∧ ((¬ jb_i (jb_si σ 86 9 (jb_i σ 88 l1)) l2 2 = 0 → jb_w (d + 1) 104 59 [some (.ref 86), some (jb_v l1), some (.ref l2), some (jb_v 0), none] [] (jb_si σ 86 9 (jb_i σ 88 l1)) Q) ∧ (¬ (¬ jb_i (jb_si σ 86 9 (jb_i σ 88 l1)) l2 2 = 0) → (jb_i (jb_si σ 86 9 (jb_i σ 88 l1)) 87 l1 = 0 → jb_w (d + 1) 104 59 [some (.ref 86), some (jb_v l1), some (.ref l2), some (jb_v 0), none] [] (jb_si σ 86 9 (jb_i σ 88 l1)) Q) ∧ (¬ (jb_i (jb_si σ 86 9 (jb_i σ 88 l1)) 87 l1 = 0) → jb_w d 101 0 [some (.ref 86), some (jb_v 5)] [] (jb_si σ 86 9 (jb_i σ 88 l1)) (jb_k (d + 1) 104 54 [some (.ref 86), some (jb_v l1), some (.ref l2), none, none] [] Q)))))) :
    jb_w (d + 1) 104 26 [some (.ref 86), some (jb_v l1), some (.ref l2), none, none] [] σ Q := by
  refine jaL0 (p := 27) rfl jM104 jq104_26 ?_
  refine jaL0 (p := 28) rfl jM104 jq104_27 ?_
  refine jw_getP (p := 31) (i := 4) (q := 88) rfl jM104 jq104_28 rfl (jo_86 hF) je_9_4 (jp_86_4 hF) ?_
  refine jiL1 (p := 32) rfl jM104 jq104_31 ?_
  obtain ⟨c1, h1⟩ := h
  refine jw_iald (p := 33) rfl jM104 jq104_32 (ja_88 hF) c1.1 c1.2 ?_
  refine jw_putI (p := 36) (i := 9) rfl jM104 jq104_33 rfl (jo_86 hF) (Or.inl jz_9_9) ?_
  refine jaL2 (p := 37) rfl jM104 jq104_36 ?_
  obtain ⟨c2, h2⟩ := h1
  refine jw_getI (p := 40) (i := 2) rfl jM104 jq104_37 rfl (hl2 c2).ob jn_4_2 ?_
  refine jw_if (p := 43) rfl jM104 jq104_40 (jc_ne (jb_r_i _ _ _) jb_r0) (fun c3 => ?_) (fun c3 => ?_)
  · have h3 := h2.1 c3
    refine jw_iconst (p := 58) rfl jM104 jq104_57 ?_
    refine jiS3 (p := 59) rfl jM104 jq104_58 ?_
    exact h3
  · have h3 := h2.2 c3
    refine jaL0 (p := 44) rfl jM104 jq104_43 ?_
    refine jw_getP (p := 47) (i := 3) (q := 87) rfl jM104 jq104_44 rfl (jo_86 hF) je_9_3 (jp_86_3 hF) ?_
    refine jiL1 (p := 48) rfl jM104 jq104_47 ?_
    refine jw_iald (p := 49) rfl jM104 jq104_48 (ja_87 hF) c1.1 c1.2 ?_
    refine jw_if (p := 52) rfl jM104 jq104_49 (jc_eq (jb_r_i _ _ _) jb_r0) (fun c4 => ?_) (fun c4 => ?_)
    · have h4 := h3.1 c4
      refine jw_iconst (p := 58) rfl jM104 jq104_57 ?_
      refine jiS3 (p := 59) rfl jM104 jq104_58 ?_
      exact h4
    · have h4 := h3.2 c4
      refine jaL0 (p := 53) rfl jM104 jq104_52 ?_
      refine jw_iconst (p := 54) rfl jM104 jq104_53 ?_
      refine jw_callV [(jb_v 5)] jM104 jq104_54 rfl rfl (jo_86 hF) rfl jM101 rfl rfl ?_
      exact h4
theorem jk104_72 {d : Nat} {σ : ib_H} {Q : ib_O → Prop} {l1 : Int} {l2 : Nat} {l3 : Int} {s0 : Int} (hF : jb_F σ) (hl1 : jb_r l1) (hl2 : l2 ≠ 0 → jb_pg σ l2) (hl3 : jb_r l3) (hs0 : jb_r s0)
    (h : (0 ≤ l1 ∧ l1 < 24) ∧ ((s0 < jb_i σ 89 l1 → jb_w d 101 0 [some (.ref 86), some (jb_v 3)] [] σ (jb_k (d + 1) 104 114 [some (.ref 86), some (jb_v l1), some (.ref l2), some (jb_v l3), some (jb_v s0)] [] Q)) ∧ (¬ (s0 < jb_i σ 89 l1) → (jb_i σ 90 l1 ≤ s0 → jb_w d 101 0 [some (.ref 86), some (jb_v 3)] [] σ (jb_k (d + 1) 104 114 [some (.ref 86), some (jb_v l1), some (.ref l2), some (jb_v l3), some (jb_v s0)] [] Q)) ∧ (¬ (jb_i σ 90 l1 ≤ s0) → (l3 ≤ 0 → jb_w (d + 1) 104 59 [some (.ref 86), some (jb_v l1), some (.ref l2), some (jb_v (l3 + 1)), some (jb_v s0)] [] σ Q) ∧ (¬ (l3 ≤ 0) → (l2 ≠ 0) ∧ (jb_w d 38 0 [some (.ref l2), some (jb_v (l3 - 1)), none] [] σ (jb_k (d + 1) 104 106 [some (.ref 86), some (jb_v l1), some (.ref l2), some (jb_v l3), some (jb_v s0)] [(jb_v s0)] Q))))))) :
    jb_w (d + 1) 104 72 [some (.ref 86), some (jb_v l1), some (.ref l2), some (jb_v l3), none] [(jb_v s0)] σ Q := by
  refine jiS4 (p := 74) rfl jM104 jq104_72 ?_
  refine jiL4 (p := 76) rfl jM104 jq104_74 ?_
  refine jaL0 (p := 77) rfl jM104 jq104_76 ?_
  refine jw_getP (p := 80) (i := 5) (q := 89) rfl jM104 jq104_77 rfl (jo_86 hF) je_9_5 (jp_86_5 hF) ?_
  refine jiL1 (p := 81) rfl jM104 jq104_80 ?_
  obtain ⟨c1, h1⟩ := h
  refine jw_iald (p := 82) rfl jM104 jq104_81 (ja_89 hF) c1.1 c1.2 ?_
  refine jw_ic (p := 85) rfl jM104 jq104_82 (jc_lt hs0 (jb_r_i _ _ _)) (fun c2 => ?_) (fun c2 => ?_)
  · have h2 := h1.1 c2
    refine jaL0 (p := 113) rfl jM104 jq104_112 ?_
    refine jw_iconst (p := 114) rfl jM104 jq104_113 ?_
    refine jw_callV [(jb_v 3)] jM104 jq104_114 rfl rfl (jo_86 hF) rfl jM101 rfl rfl ?_
    exact h2
  · have h2 := h1.2 c2
    refine jiL4 (p := 87) rfl jM104 jq104_85 ?_
    refine jaL0 (p := 88) rfl jM104 jq104_87 ?_
    refine jw_getP (p := 91) (i := 6) (q := 90) rfl jM104 jq104_88 rfl (jo_86 hF) je_9_6 (jp_86_6 hF) ?_
    refine jiL1 (p := 92) rfl jM104 jq104_91 ?_
    refine jw_iald (p := 93) rfl jM104 jq104_92 (ja_90 hF) c1.1 c1.2 ?_
    refine jw_ic (p := 96) rfl jM104 jq104_93 (jc_ge hs0 (jb_r_i _ _ _)) (fun c3 => ?_) (fun c3 => ?_)
    · have h3 := h2.1 c3
      refine jaL0 (p := 113) rfl jM104 jq104_112 ?_
      refine jw_iconst (p := 114) rfl jM104 jq104_113 ?_
      refine jw_callV [(jb_v 3)] jM104 jq104_114 rfl rfl (jo_86 hF) rfl jM101 rfl rfl ?_
      exact h3
    · have h3 := h2.2 c3
      refine jiL3 (p := 97) rfl jM104 jq104_96 ?_
      refine jw_if (p := 100) rfl jM104 jq104_97 (jc_le hl3 jb_r0) (fun c4 => ?_) (fun c4 => ?_)
      · have h4 := h3.1 c4
        refine jiI3 (p := 120) rfl jM104 jq104_117 ?_
        refine jw_goto jM104 jq104_120 ?_
        exact h4
      · have h4 := h3.2 c4
        refine jiL4 (p := 102) rfl jM104 jq104_100 ?_
        refine jaL2 (p := 103) rfl jM104 jq104_102 ?_
        refine jiL3 (p := 104) rfl jM104 jq104_103 ?_
        refine jw_iconst (p := 105) rfl jM104 jq104_104 ?_
        refine jw_isub (p := 106) rfl jM104 jq104_105 ?_
        obtain ⟨c5, h5⟩ := h4
        refine jw_callV [(jb_v (l3 - 1))] jM104 jq104_106 rfl rfl (hl2 c5).ob rfl jM38 rfl rfl ?_
        exact h5
theorem jk104_117 {d : Nat} {σ : ib_H} {Q : ib_O → Prop} {l1 : Int} {l2 : Nat} {l3 : Int} {l4 : Int} (hF : jb_F σ) (hl1 : jb_r l1) (hl2 : l2 ≠ 0 → jb_pg σ l2) (hl3 : jb_r l3) (hl4 : jb_r l4)
    (h : jb_w d 104 59 [some (.ref 86), some (jb_v l1), some (.ref l2), some (jb_v (l3 + 1)), some (jb_v l4)] [] σ Q) :
    jb_w d 104 117 [some (.ref 86), some (jb_v l1), some (.ref l2), some (jb_v l3), some (jb_v l4)] [] σ Q := by
  refine jiI3 (p := 120) rfl jM104 jq104_117 ?_
  refine jw_goto jM104 jq104_120 ?_
  exact h
theorem jk104_59_2 {d : Nat} {σ : ib_H} {Q : ib_O → Prop} {l1 : Int} {l2 : Nat} {l3 : Int} {l4 : Int} (hF : jb_F σ) (hl1 : jb_r l1) (hl2 : l2 ≠ 0 → jb_pg σ l2) (hl3 : jb_r l3) (hl4 : jb_r l4)
    (h : (l2 ≠ 0) ∧ ((jb_i σ l2 2 ≤ l3 → Q (.inl none, σ)) ∧ (¬ (jb_i σ l2 2 ≤ l3) → jb_w d 38 0 [some (.ref l2), some (jb_v l3), none] [] σ (jb_k (d + 1) 104 69 [some (.ref 86), some (jb_v l1), some (.ref l2), some (jb_v l3), some (jb_v l4)] [] Q)))) :
    jb_w (d + 1) 104 59 [some (.ref 86), some (jb_v l1), some (.ref l2), some (jb_v l3), some (jb_v l4)] [] σ Q := by
  refine jiL3 (p := 60) rfl jM104 jq104_59 ?_
  refine jaL2 (p := 61) rfl jM104 jq104_60 ?_
  obtain ⟨c1, h1⟩ := h
  refine jw_getI (p := 64) (i := 2) rfl jM104 jq104_61 rfl (hl2 c1).ob jn_4_2 ?_
  refine jw_ic (p := 67) rfl jM104 jq104_64 (jc_ge hl3 (jb_r_i _ _ _)) (fun c2 => ?_) (fun c2 => ?_)
  · have h2 := h1.1 c2
    exact jw_vret jM104 jq104_123 h2
  · have h2 := h1.2 c2
    refine jaL2 (p := 68) rfl jM104 jq104_67 ?_
    refine jiL3 (p := 69) rfl jM104 jq104_68 ?_
    refine jw_callV [(jb_v l3)] jM104 jq104_69 rfl rfl (hl2 c1).ob rfl jM38 rfl rfl ?_
    exact h2
theorem jk104_109 {d : Nat} {σ : ib_H} {Q : ib_O → Prop} {l1 : Int} {l2 : Nat} {l3 : Int} {l4 : Int} {s0 : Int} {s1 : Int} (hF : jb_F σ) (hl1 : jb_r l1) (hl2 : l2 ≠ 0 → jb_pg σ l2) (hl3 : jb_r l3) (hl4 : jb_r l4) (hs0 : jb_r s0) (hs1 : jb_r s1)
    (h : (s1 < s0 → jb_w (d + 1) 104 59 [some (.ref 86), some (jb_v l1), some (.ref l2), some (jb_v (l3 + 1)), some (jb_v l4)] [] σ Q) ∧ (¬ (s1 < s0) → jb_w d 101 0 [some (.ref 86), some (jb_v 3)] [] σ (jb_k (d + 1) 104 114 [some (.ref 86), some (jb_v l1), some (.ref l2), some (jb_v l3), some (jb_v l4)] [] Q))) :
    jb_w (d + 1) 104 109 [some (.ref 86), some (jb_v l1), some (.ref l2), some (jb_v l3), some (jb_v l4)] [(jb_v s1), (jb_v s0)] σ Q := by
  refine jw_ic (p := 112) rfl jM104 jq104_109 (jc_gt hs0 hs1) (fun c1 => ?_) (fun c1 => ?_)
  · have h1 := h.1 c1
    refine jiI3 (p := 120) rfl jM104 jq104_117 ?_
    refine jw_goto jM104 jq104_120 ?_
    exact h1
  · have h1 := h.2 c1
    refine jaL0 (p := 113) rfl jM104 jq104_112 ?_
    refine jw_iconst (p := 114) rfl jM104 jq104_113 ?_
    refine jw_callV [(jb_v 3)] jM104 jq104_114 rfl rfl (jo_86 hF) rfl jM101 rfl rfl ?_
    exact h1
theorem jk104_72_2 {d : Nat} {σ : ib_H} {Q : ib_O → Prop} {l1 : Int} {l2 : Nat} {l3 : Int} {l4 : Int} {s0 : Int} (hF : jb_F σ) (hl1 : jb_r l1) (hl2 : l2 ≠ 0 → jb_pg σ l2) (hl3 : jb_r l3) (hl4 : jb_r l4) (hs0 : jb_r s0)
    (h : (0 ≤ l1 ∧ l1 < 24) ∧ ((s0 < jb_i σ 89 l1 → jb_w d 101 0 [some (.ref 86), some (jb_v 3)] [] σ (jb_k (d + 1) 104 114 [some (.ref 86), some (jb_v l1), some (.ref l2), some (jb_v l3), some (jb_v s0)] [] Q)) ∧ (¬ (s0 < jb_i σ 89 l1) → (jb_i σ 90 l1 ≤ s0 → jb_w d 101 0 [some (.ref 86), some (jb_v 3)] [] σ (jb_k (d + 1) 104 114 [some (.ref 86), some (jb_v l1), some (.ref l2), some (jb_v l3), some (jb_v s0)] [] Q)) ∧ (¬ (jb_i σ 90 l1 ≤ s0) → (l3 ≤ 0 → jb_w (d + 1) 104 59 [some (.ref 86), some (jb_v l1), some (.ref l2), some (jb_v (l3 + 1)), some (jb_v s0)] [] σ Q) ∧ (¬ (l3 ≤ 0) → (l2 ≠ 0) ∧ (jb_w d 38 0 [some (.ref l2), some (jb_v (l3 - 1)), none] [] σ (jb_k (d + 1) 104 106 [some (.ref 86), some (jb_v l1), some (.ref l2), some (jb_v l3), some (jb_v s0)] [(jb_v s0)] Q))))))) :
    jb_w (d + 1) 104 72 [some (.ref 86), some (jb_v l1), some (.ref l2), some (jb_v l3), some (jb_v l4)] [(jb_v s0)] σ Q := by
  refine jiS4 (p := 74) rfl jM104 jq104_72 ?_
  refine jiL4 (p := 76) rfl jM104 jq104_74 ?_
  refine jaL0 (p := 77) rfl jM104 jq104_76 ?_
  refine jw_getP (p := 80) (i := 5) (q := 89) rfl jM104 jq104_77 rfl (jo_86 hF) je_9_5 (jp_86_5 hF) ?_
  refine jiL1 (p := 81) rfl jM104 jq104_80 ?_
  obtain ⟨c1, h1⟩ := h
  refine jw_iald (p := 82) rfl jM104 jq104_81 (ja_89 hF) c1.1 c1.2 ?_
  refine jw_ic (p := 85) rfl jM104 jq104_82 (jc_lt hs0 (jb_r_i _ _ _)) (fun c2 => ?_) (fun c2 => ?_)
  · have h2 := h1.1 c2
    refine jaL0 (p := 113) rfl jM104 jq104_112 ?_
    refine jw_iconst (p := 114) rfl jM104 jq104_113 ?_
    refine jw_callV [(jb_v 3)] jM104 jq104_114 rfl rfl (jo_86 hF) rfl jM101 rfl rfl ?_
    exact h2
  · have h2 := h1.2 c2
    refine jiL4 (p := 87) rfl jM104 jq104_85 ?_
    refine jaL0 (p := 88) rfl jM104 jq104_87 ?_
    refine jw_getP (p := 91) (i := 6) (q := 90) rfl jM104 jq104_88 rfl (jo_86 hF) je_9_6 (jp_86_6 hF) ?_
    refine jiL1 (p := 92) rfl jM104 jq104_91 ?_
    refine jw_iald (p := 93) rfl jM104 jq104_92 (ja_90 hF) c1.1 c1.2 ?_
    refine jw_ic (p := 96) rfl jM104 jq104_93 (jc_ge hs0 (jb_r_i _ _ _)) (fun c3 => ?_) (fun c3 => ?_)
    · have h3 := h2.1 c3
      refine jaL0 (p := 113) rfl jM104 jq104_112 ?_
      refine jw_iconst (p := 114) rfl jM104 jq104_113 ?_
      refine jw_callV [(jb_v 3)] jM104 jq104_114 rfl rfl (jo_86 hF) rfl jM101 rfl rfl ?_
      exact h3
    · have h3 := h2.2 c3
      refine jiL3 (p := 97) rfl jM104 jq104_96 ?_
      refine jw_if (p := 100) rfl jM104 jq104_97 (jc_le hl3 jb_r0) (fun c4 => ?_) (fun c4 => ?_)
      · have h4 := h3.1 c4
        refine jiI3 (p := 120) rfl jM104 jq104_117 ?_
        refine jw_goto jM104 jq104_120 ?_
        exact h4
      · have h4 := h3.2 c4
        refine jiL4 (p := 102) rfl jM104 jq104_100 ?_
        refine jaL2 (p := 103) rfl jM104 jq104_102 ?_
        refine jiL3 (p := 104) rfl jM104 jq104_103 ?_
        refine jw_iconst (p := 105) rfl jM104 jq104_104 ?_
        refine jw_isub (p := 106) rfl jM104 jq104_105 ?_
        obtain ⟨c5, h5⟩ := h4
        refine jw_callV [(jb_v (l3 - 1))] jM104 jq104_106 rfl rfl (hl2 c5).ob rfl jM38 rfl rfl ?_
        exact h5
-- 105 PageLoom$Walk.lookIntoInner(ILPageLoom$Page;)V
theorem jk105_0 {d : Nat} {σ : ib_H} {Q : ib_O → Prop} {l1 : Int} {l2 : Nat} (hF : jb_F σ) (hl1 : jb_r l1) (hl2 : l2 ≠ 0 → jb_pg σ l2)
    (h : (l2 ≠ 0) ∧ ((¬ jb_i σ l2 2 = 0 → (0 ≤ l1 ∧ l1 < 24) ∧ (jb_w (d + 1) 105 22 [some (.ref 86), some (jb_v l1), some (.ref l2), some (jb_v (jb_i σ 89 l1)), some (jb_v 0), none, none] [] σ Q)) ∧ (¬ (¬ jb_i σ l2 2 = 0) → jb_w d 101 0 [some (.ref 86), some (jb_v 5)] [] σ (jb_k (d + 1) 105 9 [some (.ref 86), some (jb_v l1), some (.ref l2), none, none, none, none] [] Q)))) :
    jb_w (d + 1) 105 0 [some (.ref 86), some (jb_v l1), some (.ref l2), none, none, none, none] [] σ Q := by
  refine jaL2 (p := 1) rfl jM105 jq105_0 ?_
  obtain ⟨c1, h1⟩ := h
  refine jw_getI (p := 4) (i := 2) rfl jM105 jq105_1 rfl (hl2 c1).ob jn_4_2 ?_
  refine jw_if (p := 7) rfl jM105 jq105_4 (jc_ne (jb_r_i _ _ _) jb_r0) (fun c2 => ?_) (fun c2 => ?_)
  · have h2 := h1.1 c2
    refine jaL0 (p := 13) rfl jM105 jq105_12 ?_
    refine jw_getP (p := 16) (i := 5) (q := 89) rfl jM105 jq105_13 rfl (jo_86 hF) je_9_5 (jp_86_5 hF) ?_
    refine jiL1 (p := 17) rfl jM105 jq105_16 ?_
    obtain ⟨c3, h3⟩ := h2
    refine jw_iald (p := 18) rfl jM105 jq105_17 (ja_89 hF) c3.1 c3.2 ?_
    refine jiS3 (p := 19) rfl jM105 jq105_18 ?_
    refine jw_iconst (p := 20) rfl jM105 jq105_19 ?_
    refine jiS4 (p := 22) rfl jM105 jq105_20 ?_
    exact h3
  · have h2 := h1.2 c2
    refine jaL0 (p := 8) rfl jM105 jq105_7 ?_
    refine jw_iconst (p := 9) rfl jM105 jq105_8 ?_
    refine jw_callV [(jb_v 5)] jM105 jq105_9 rfl rfl (jo_86 hF) rfl jM101 rfl rfl ?_
    exact h2
theorem jk105_22 {d : Nat} {σ : ib_H} {Q : ib_O → Prop} {l1 : Int} {l2 : Nat} {l3 : Int} {l4 : Int} (hF : jb_F σ) (hl1 : jb_r l1) (hl2 : l2 ≠ 0 → jb_pg σ l2) (hl3 : jb_r l3) (hl4 : jb_r l4)
    (h : (l2 ≠ 0) ∧ ((jb_i σ l2 2 ≤ l4 → Q (.inl none, σ)) ∧ (¬ (jb_i σ l2 2 ≤ l4) → (jb_r (l4 + 1)) ∧ ((l4 + 1 < jb_i σ l2 2 → jb_w d 38 0 [some (.ref l2), some (jb_v (l4 + 1)), none] [] σ (jb_k (d + 1) 105 68 [some (.ref 86), some (jb_v l1), some (.ref l2), some (jb_v l3), some (jb_v l4), some (jb_v 0), none] [] Q)) ∧ (¬ (l4 + 1 < jb_i σ l2 2) → (0 ≤ l1 ∧ l1 < 24) ∧ (jb_w d 39 0 [some (.ref l2), some (jb_v l4), none] [] σ (jb_k (d + 1) 105 104 [some (.ref 86), some (jb_v l1), some (.ref l2), some (jb_v l3), some (jb_v l4), some (jb_v 1), some (jb_v (jb_i σ 90 l1))] [(.ref 86)] Q))))))) :
    jb_w (d + 1) 105 22 [some (.ref 86), some (jb_v l1), some (.ref l2), some (jb_v l3), some (jb_v l4), none, none] [] σ Q := by
  refine jiL4 (p := 24) rfl jM105 jq105_22 ?_
  refine jaL2 (p := 25) rfl jM105 jq105_24 ?_
  obtain ⟨c1, h1⟩ := h
  refine jw_getI (p := 28) (i := 2) rfl jM105 jq105_25 rfl (hl2 c1).ob jn_4_2 ?_
  refine jw_ic (p := 31) rfl jM105 jq105_28 (jc_ge hl4 (jb_r_i _ _ _)) (fun c2 => ?_) (fun c2 => ?_)
  · have h2 := h1.1 c2
    exact jw_vret jM105 jq105_130 h2
  · have h2 := h1.2 c2
    refine jiL4 (p := 33) rfl jM105 jq105_31 ?_
    refine jw_iconst (p := 34) rfl jM105 jq105_33 ?_
    refine jw_iadd (p := 35) rfl jM105 jq105_34 ?_
    refine jaL2 (p := 36) rfl jM105 jq105_35 ?_
    refine jw_getI (p := 39) (i := 2) rfl jM105 jq105_36 rfl (hl2 c1).ob jn_4_2 ?_
    obtain ⟨c3, h3⟩ := h2
    refine jw_ic (p := 42) rfl jM105 jq105_39 (jc_lt c3 (jb_r_i _ _ _)) (fun c4 => ?_) (fun c4 => ?_)
    · have h4 := h3.1 c4
      refine jw_iconst (p := 47) rfl jM105 jq105_46 ?_
      refine jiS5 (p := 49) rfl jM105 jq105_47 ?_
      refine jiL5 (p := 51) rfl jM105 jq105_49 ?_
      refine jw_if (p := 54) rfl jM105 jq105_51 (jc_eq (jb_rn rfl) jb_r0) (fun _ => ?_) (fun z => absurd (by decide) z)
      refine jaL2 (p := 64) rfl jM105 jq105_63 ?_
      refine jiL4 (p := 66) rfl jM105 jq105_64 ?_
      refine jw_iconst (p := 67) rfl jM105 jq105_66 ?_
      refine jw_iadd (p := 68) rfl jM105 jq105_67 ?_
      refine jw_callV [(jb_v (l4 + 1))] jM105 jq105_68 rfl rfl (hl2 c1).ob rfl jM38 rfl rfl ?_
      exact h4
    · have h4 := h3.2 c4
      refine jw_iconst (p := 43) rfl jM105 jq105_42 ?_
      refine jw_goto jM105 jq105_43 ?_
      refine jiS5 (p := 49) rfl jM105 jq105_47 ?_
      refine jiL5 (p := 51) rfl jM105 jq105_49 ?_
      refine jw_if (p := 54) rfl jM105 jq105_51 (jc_eq (jb_rn rfl) jb_r0) (fun z => absurd z (by decide)) (fun _ => ?_)
      refine jaL0 (p := 55) rfl jM105 jq105_54 ?_
      refine jw_getP (p := 58) (i := 6) (q := 90) rfl jM105 jq105_55 rfl (jo_86 hF) je_9_6 (jp_86_6 hF) ?_
      refine jiL1 (p := 59) rfl jM105 jq105_58 ?_
      obtain ⟨c5, h5⟩ := h4
      refine jw_iald (p := 60) rfl jM105 jq105_59 (ja_90 hF) c5.1 c5.2 ?_
      refine jw_goto jM105 jq105_60 ?_
      refine jiS6 (p := 73) rfl jM105 jq105_71 ?_
      refine jiL5 (p := 75) rfl jM105 jq105_73 ?_
      refine jw_if (p := 78) rfl jM105 jq105_75 (jc_ne (jb_rn rfl) jb_r0) (fun _ => ?_) (fun z => absurd (by decide) z)
      refine jaL0 (p := 101) rfl jM105 jq105_100 ?_
      refine jaL2 (p := 102) rfl jM105 jq105_101 ?_
      refine jiL4 (p := 104) rfl jM105 jq105_102 ?_
      refine jw_callV [(jb_v l4)] jM105 jq105_104 rfl rfl (hl2 c1).ob rfl jM39 rfl rfl ?_
      exact h5
theorem jk105_12 {d : Nat} {σ : ib_H} {Q : ib_O → Prop} {l1 : Int} {l2 : Nat} (hF : jb_F σ) (hl1 : jb_r l1) (hl2 : l2 ≠ 0 → jb_pg σ l2)
    (h : (0 ≤ l1 ∧ l1 < 24) ∧ (jb_w d 105 22 [some (.ref 86), some (jb_v l1), some (.ref l2), some (jb_v (jb_i σ 89 l1)), some (jb_v 0), none, none] [] σ Q)) :
    jb_w d 105 12 [some (.ref 86), some (jb_v l1), some (.ref l2), none, none, none, none] [] σ Q := by
  refine jaL0 (p := 13) rfl jM105 jq105_12 ?_
  refine jw_getP (p := 16) (i := 5) (q := 89) rfl jM105 jq105_13 rfl (jo_86 hF) je_9_5 (jp_86_5 hF) ?_
  refine jiL1 (p := 17) rfl jM105 jq105_16 ?_
  obtain ⟨c1, h1⟩ := h
  refine jw_iald (p := 18) rfl jM105 jq105_17 (ja_89 hF) c1.1 c1.2 ?_
  refine jiS3 (p := 19) rfl jM105 jq105_18 ?_
  refine jw_iconst (p := 20) rfl jM105 jq105_19 ?_
  refine jiS4 (p := 22) rfl jM105 jq105_20 ?_
  exact h1
theorem jk105_71 {d : Nat} {σ : ib_H} {Q : ib_O → Prop} {l1 : Int} {l2 : Nat} {l3 : Int} {l4 : Int} {l5 : Int} {s0 : Int} (hF : jb_F σ) (hl1 : jb_r l1) (hl2 : l2 ≠ 0 → jb_pg σ l2) (hl3 : jb_r l3) (hl4 : jb_r l4) (hl5 : jb_r l5) (hs0 : jb_r s0)
    (h : (¬ l5 = 0 → (l2 ≠ 0) ∧ (jb_w d 39 0 [some (.ref l2), some (jb_v l4), none] [] σ (jb_k (d + 1) 105 104 [some (.ref 86), some (jb_v l1), some (.ref l2), some (jb_v l3), some (jb_v l4), some (jb_v l5), some (jb_v s0)] [(.ref 86)] Q))) ∧ (¬ (¬ l5 = 0) → (s0 < l3 → jb_w d 101 0 [some (.ref 86), some (jb_v 3)] [] σ (jb_k (d + 1) 105 97 [some (.ref 86), some (jb_v l1), some (.ref l2), some (jb_v l3), some (jb_v l4), some (jb_v l5), some (jb_v s0)] [] Q)) ∧ (¬ (s0 < l3) → (0 ≤ l1 ∧ l1 < 24) ∧ ((s0 < jb_i σ 90 l1 → (l2 ≠ 0) ∧ (jb_w d 39 0 [some (.ref l2), some (jb_v l4), none] [] σ (jb_k (d + 1) 105 104 [some (.ref 86), some (jb_v l1), some (.ref l2), some (jb_v l3), some (jb_v l4), some (jb_v l5), some (jb_v s0)] [(.ref 86)] Q))) ∧ (¬ (s0 < jb_i σ 90 l1) → jb_w d 101 0 [some (.ref 86), some (jb_v 3)] [] σ (jb_k (d + 1) 105 97 [some (.ref 86), some (jb_v l1), some (.ref l2), some (jb_v l3), some (jb_v l4), some (jb_v l5), some (jb_v s0)] [] Q)))))) :
    jb_w (d + 1) 105 71 [some (.ref 86), some (jb_v l1), some (.ref l2), some (jb_v l3), some (jb_v l4), some (jb_v l5), none] [(jb_v s0)] σ Q := by
  refine jiS6 (p := 73) rfl jM105 jq105_71 ?_
  refine jiL5 (p := 75) rfl jM105 jq105_73 ?_
  refine jw_if (p := 78) rfl jM105 jq105_75 (jc_ne hl5 jb_r0) (fun c1 => ?_) (fun c1 => ?_)
  · have h1 := h.1 c1
    refine jaL0 (p := 101) rfl jM105 jq105_100 ?_
    refine jaL2 (p := 102) rfl jM105 jq105_101 ?_
    refine jiL4 (p := 104) rfl jM105 jq105_102 ?_
    obtain ⟨c2, h2⟩ := h1
    refine jw_callV [(jb_v l4)] jM105 jq105_104 rfl rfl (hl2 c2).ob rfl jM39 rfl rfl ?_
    exact h2
  · have h1 := h.2 c1
    refine jiL6 (p := 80) rfl jM105 jq105_78 ?_
    refine jiL3 (p := 81) rfl jM105 jq105_80 ?_
    refine jw_ic (p := 84) rfl jM105 jq105_81 (jc_lt hs0 hl3) (fun c3 => ?_) (fun c3 => ?_)
    · have h3 := h1.1 c3
      refine jaL0 (p := 96) rfl jM105 jq105_95 ?_
      refine jw_iconst (p := 97) rfl jM105 jq105_96 ?_
      refine jw_callV [(jb_v 3)] jM105 jq105_97 rfl rfl (jo_86 hF) rfl jM101 rfl rfl ?_
      exact h3
    · have h3 := h1.2 c3
      refine jiL6 (p := 86) rfl jM105 jq105_84 ?_
      refine jaL0 (p := 87) rfl jM105 jq105_86 ?_
      refine jw_getP (p := 90) (i := 6) (q := 90) rfl jM105 jq105_87 rfl (jo_86 hF) je_9_6 (jp_86_6 hF) ?_
      refine jiL1 (p := 91) rfl jM105 jq105_90 ?_
      obtain ⟨c4, h4⟩ := h3
      refine jw_iald (p := 92) rfl jM105 jq105_91 (ja_90 hF) c4.1 c4.2 ?_
      refine jw_ic (p := 95) rfl jM105 jq105_92 (jc_lt hs0 (jb_r_i _ _ _)) (fun c5 => ?_) (fun c5 => ?_)
      · have h5 := h4.1 c5
        refine jaL0 (p := 101) rfl jM105 jq105_100 ?_
        refine jaL2 (p := 102) rfl jM105 jq105_101 ?_
        refine jiL4 (p := 104) rfl jM105 jq105_102 ?_
        obtain ⟨c6, h6⟩ := h5
        refine jw_callV [(jb_v l4)] jM105 jq105_104 rfl rfl (hl2 c6).ob rfl jM39 rfl rfl ?_
        exact h6
      · have h5 := h4.2 c5
        refine jaL0 (p := 96) rfl jM105 jq105_95 ?_
        refine jw_iconst (p := 97) rfl jM105 jq105_96 ?_
        refine jw_callV [(jb_v 3)] jM105 jq105_97 rfl rfl (jo_86 hF) rfl jM101 rfl rfl ?_
        exact h5
theorem jk105_107 {d : Nat} {σ : ib_H} {Q : ib_O → Prop} {l1 : Int} {l2 : Nat} {l3 : Int} {l4 : Int} {l5 : Int} {l6 : Int} {s1 : Int} (hF : jb_F σ) (hl1 : jb_r l1) (hl2 : l2 ≠ 0 → jb_pg σ l2) (hl3 : jb_r l3) (hl4 : jb_r l4) (hl5 : jb_r l5) (hl6 : jb_r l6) (hs1 : jb_r s1)
    (h : (0 ≤ l1 ∧ l1 < 24) ∧ (jb_w d 102 0 [some (.ref 86), some (jb_v s1), some (jb_v ((jb_i σ 88 l1) + 1)), some (jb_v l3), some (jb_v l6)] [] σ (jb_k (d + 1) 105 118 [some (.ref 86), some (jb_v l1), some (.ref l2), some (jb_v l3), some (jb_v l4), some (jb_v l5), some (jb_v l6)] [] Q))) :
    jb_w (d + 1) 105 107 [some (.ref 86), some (jb_v l1), some (.ref l2), some (jb_v l3), some (jb_v l4), some (jb_v l5), some (jb_v l6)] [(jb_v s1), (.ref 86)] σ Q := by
  refine jaL0 (p := 108) rfl jM105 jq105_107 ?_
  refine jw_getP (p := 111) (i := 4) (q := 88) rfl jM105 jq105_108 rfl (jo_86 hF) je_9_4 (jp_86_4 hF) ?_
  refine jiL1 (p := 112) rfl jM105 jq105_111 ?_
  obtain ⟨c1, h1⟩ := h
  refine jw_iald (p := 113) rfl jM105 jq105_112 (ja_88 hF) c1.1 c1.2 ?_
  refine jw_iconst (p := 114) rfl jM105 jq105_113 ?_
  refine jw_iadd (p := 115) rfl jM105 jq105_114 ?_
  refine jiL3 (p := 116) rfl jM105 jq105_115 ?_
  refine jiL6 (p := 118) rfl jM105 jq105_116 ?_
  refine jw_callV [(jb_v s1), (jb_v ((jb_i σ 88 l1) + 1)), (jb_v l3), (jb_v l6)] jM105 jq105_118 rfl rfl (jo_86 hF) rfl jM102 rfl rfl ?_
  exact h1
theorem jk105_100 {d : Nat} {σ : ib_H} {Q : ib_O → Prop} {l1 : Int} {l2 : Nat} {l3 : Int} {l4 : Int} {l5 : Int} {l6 : Int} (hF : jb_F σ) (hl1 : jb_r l1) (hl2 : l2 ≠ 0 → jb_pg σ l2) (hl3 : jb_r l3) (hl4 : jb_r l4) (hl5 : jb_r l5) (hl6 : jb_r l6)
    (h : (l2 ≠ 0) ∧ (jb_w d 39 0 [some (.ref l2), some (jb_v l4), none] [] σ (jb_k (d + 1) 105 104 [some (.ref 86), some (jb_v l1), some (.ref l2), some (jb_v l3), some (jb_v l4), some (jb_v l5), some (jb_v l6)] [(.ref 86)] Q))) :
    jb_w (d + 1) 105 100 [some (.ref 86), some (jb_v l1), some (.ref l2), some (jb_v l3), some (jb_v l4), some (jb_v l5), some (jb_v l6)] [] σ Q := by
  refine jaL0 (p := 101) rfl jM105 jq105_100 ?_
  refine jaL2 (p := 102) rfl jM105 jq105_101 ?_
  refine jiL4 (p := 104) rfl jM105 jq105_102 ?_
  obtain ⟨c1, h1⟩ := h
  refine jw_callV [(jb_v l4)] jM105 jq105_104 rfl rfl (hl2 c1).ob rfl jM39 rfl rfl ?_
  exact h1
theorem jk105_121 {d : Nat} {σ : ib_H} {Q : ib_O → Prop} {l1 : Int} {l2 : Nat} {l3 : Int} {l4 : Int} {l5 : Int} {l6 : Int} (hF : jb_F σ) (hl1 : jb_r l1) (hl2 : l2 ≠ 0 → jb_pg σ l2) (hl3 : jb_r l3) (hl4 : jb_r l4) (hl5 : jb_r l5) (hl6 : jb_r l6)
    (h : jb_w d 105 22 [some (.ref 86), some (jb_v l1), some (.ref l2), some (jb_v l6), some (jb_v (l4 + 1)), some (jb_v l5), some (jb_v l6)] [] σ Q) :
    jb_w d 105 121 [some (.ref 86), some (jb_v l1), some (.ref l2), some (jb_v l3), some (jb_v l4), some (jb_v l5), some (jb_v l6)] [] σ Q := by
  refine jiL6 (p := 123) rfl jM105 jq105_121 ?_
  refine jiS3 (p := 124) rfl jM105 jq105_123 ?_
  refine jiI4 (p := 127) rfl jM105 jq105_124 ?_
  refine jw_goto jM105 jq105_127 ?_
  exact h
theorem jk105_22_2 {d : Nat} {σ : ib_H} {Q : ib_O → Prop} {l1 : Int} {l2 : Nat} {l3 : Int} {l4 : Int} {l5 : Int} {l6 : Int} (hF : jb_F σ) (hl1 : jb_r l1) (hl2 : l2 ≠ 0 → jb_pg σ l2) (hl3 : jb_r l3) (hl4 : jb_r l4) (hl5 : jb_r l5) (hl6 : jb_r l6)
    (h : (l2 ≠ 0) ∧ ((jb_i σ l2 2 ≤ l4 → Q (.inl none, σ)) ∧ (¬ (jb_i σ l2 2 ≤ l4) → (jb_r (l4 + 1)) ∧ ((l4 + 1 < jb_i σ l2 2 → jb_w d 38 0 [some (.ref l2), some (jb_v (l4 + 1)), none] [] σ (jb_k (d + 1) 105 68 [some (.ref 86), some (jb_v l1), some (.ref l2), some (jb_v l3), some (jb_v l4), some (jb_v 0), some (jb_v l6)] [] Q)) ∧ (¬ (l4 + 1 < jb_i σ l2 2) → (0 ≤ l1 ∧ l1 < 24) ∧ (jb_w d 39 0 [some (.ref l2), some (jb_v l4), none] [] σ (jb_k (d + 1) 105 104 [some (.ref 86), some (jb_v l1), some (.ref l2), some (jb_v l3), some (jb_v l4), some (jb_v 1), some (jb_v (jb_i σ 90 l1))] [(.ref 86)] Q))))))) :
    jb_w (d + 1) 105 22 [some (.ref 86), some (jb_v l1), some (.ref l2), some (jb_v l3), some (jb_v l4), some (jb_v l5), some (jb_v l6)] [] σ Q := by
  refine jiL4 (p := 24) rfl jM105 jq105_22 ?_
  refine jaL2 (p := 25) rfl jM105 jq105_24 ?_
  obtain ⟨c1, h1⟩ := h
  refine jw_getI (p := 28) (i := 2) rfl jM105 jq105_25 rfl (hl2 c1).ob jn_4_2 ?_
  refine jw_ic (p := 31) rfl jM105 jq105_28 (jc_ge hl4 (jb_r_i _ _ _)) (fun c2 => ?_) (fun c2 => ?_)
  · have h2 := h1.1 c2
    exact jw_vret jM105 jq105_130 h2
  · have h2 := h1.2 c2
    refine jiL4 (p := 33) rfl jM105 jq105_31 ?_
    refine jw_iconst (p := 34) rfl jM105 jq105_33 ?_
    refine jw_iadd (p := 35) rfl jM105 jq105_34 ?_
    refine jaL2 (p := 36) rfl jM105 jq105_35 ?_
    refine jw_getI (p := 39) (i := 2) rfl jM105 jq105_36 rfl (hl2 c1).ob jn_4_2 ?_
    obtain ⟨c3, h3⟩ := h2
    refine jw_ic (p := 42) rfl jM105 jq105_39 (jc_lt c3 (jb_r_i _ _ _)) (fun c4 => ?_) (fun c4 => ?_)
    · have h4 := h3.1 c4
      refine jw_iconst (p := 47) rfl jM105 jq105_46 ?_
      refine jiS5 (p := 49) rfl jM105 jq105_47 ?_
      refine jiL5 (p := 51) rfl jM105 jq105_49 ?_
      refine jw_if (p := 54) rfl jM105 jq105_51 (jc_eq (jb_rn rfl) jb_r0) (fun _ => ?_) (fun z => absurd (by decide) z)
      refine jaL2 (p := 64) rfl jM105 jq105_63 ?_
      refine jiL4 (p := 66) rfl jM105 jq105_64 ?_
      refine jw_iconst (p := 67) rfl jM105 jq105_66 ?_
      refine jw_iadd (p := 68) rfl jM105 jq105_67 ?_
      refine jw_callV [(jb_v (l4 + 1))] jM105 jq105_68 rfl rfl (hl2 c1).ob rfl jM38 rfl rfl ?_
      exact h4
    · have h4 := h3.2 c4
      refine jw_iconst (p := 43) rfl jM105 jq105_42 ?_
      refine jw_goto jM105 jq105_43 ?_
      refine jiS5 (p := 49) rfl jM105 jq105_47 ?_
      refine jiL5 (p := 51) rfl jM105 jq105_49 ?_
      refine jw_if (p := 54) rfl jM105 jq105_51 (jc_eq (jb_rn rfl) jb_r0) (fun z => absurd z (by decide)) (fun _ => ?_)
      refine jaL0 (p := 55) rfl jM105 jq105_54 ?_
      refine jw_getP (p := 58) (i := 6) (q := 90) rfl jM105 jq105_55 rfl (jo_86 hF) je_9_6 (jp_86_6 hF) ?_
      refine jiL1 (p := 59) rfl jM105 jq105_58 ?_
      obtain ⟨c5, h5⟩ := h4
      refine jw_iald (p := 60) rfl jM105 jq105_59 (ja_90 hF) c5.1 c5.2 ?_
      refine jw_goto jM105 jq105_60 ?_
      refine jiS6 (p := 73) rfl jM105 jq105_71 ?_
      refine jiL5 (p := 75) rfl jM105 jq105_73 ?_
      refine jw_if (p := 78) rfl jM105 jq105_75 (jc_ne (jb_rn rfl) jb_r0) (fun _ => ?_) (fun z => absurd (by decide) z)
      refine jaL0 (p := 101) rfl jM105 jq105_100 ?_
      refine jaL2 (p := 102) rfl jM105 jq105_101 ?_
      refine jiL4 (p := 104) rfl jM105 jq105_102 ?_
      refine jw_callV [(jb_v l4)] jM105 jq105_104 rfl rfl (hl2 c1).ob rfl jM39 rfl rfl ?_
      exact h5
theorem jk105_71_2 {d : Nat} {σ : ib_H} {Q : ib_O → Prop} {l1 : Int} {l2 : Nat} {l3 : Int} {l4 : Int} {l5 : Int} {l6 : Int} {s0 : Int} (hF : jb_F σ) (hl1 : jb_r l1) (hl2 : l2 ≠ 0 → jb_pg σ l2) (hl3 : jb_r l3) (hl4 : jb_r l4) (hl5 : jb_r l5) (hl6 : jb_r l6) (hs0 : jb_r s0)
    (h : (¬ l5 = 0 → (l2 ≠ 0) ∧ (jb_w d 39 0 [some (.ref l2), some (jb_v l4), none] [] σ (jb_k (d + 1) 105 104 [some (.ref 86), some (jb_v l1), some (.ref l2), some (jb_v l3), some (jb_v l4), some (jb_v l5), some (jb_v s0)] [(.ref 86)] Q))) ∧ (¬ (¬ l5 = 0) → (s0 < l3 → jb_w d 101 0 [some (.ref 86), some (jb_v 3)] [] σ (jb_k (d + 1) 105 97 [some (.ref 86), some (jb_v l1), some (.ref l2), some (jb_v l3), some (jb_v l4), some (jb_v l5), some (jb_v s0)] [] Q)) ∧ (¬ (s0 < l3) → (0 ≤ l1 ∧ l1 < 24) ∧ ((s0 < jb_i σ 90 l1 → (l2 ≠ 0) ∧ (jb_w d 39 0 [some (.ref l2), some (jb_v l4), none] [] σ (jb_k (d + 1) 105 104 [some (.ref 86), some (jb_v l1), some (.ref l2), some (jb_v l3), some (jb_v l4), some (jb_v l5), some (jb_v s0)] [(.ref 86)] Q))) ∧ (¬ (s0 < jb_i σ 90 l1) → jb_w d 101 0 [some (.ref 86), some (jb_v 3)] [] σ (jb_k (d + 1) 105 97 [some (.ref 86), some (jb_v l1), some (.ref l2), some (jb_v l3), some (jb_v l4), some (jb_v l5), some (jb_v s0)] [] Q)))))) :
    jb_w (d + 1) 105 71 [some (.ref 86), some (jb_v l1), some (.ref l2), some (jb_v l3), some (jb_v l4), some (jb_v l5), some (jb_v l6)] [(jb_v s0)] σ Q := by
  refine jiS6 (p := 73) rfl jM105 jq105_71 ?_
  refine jiL5 (p := 75) rfl jM105 jq105_73 ?_
  refine jw_if (p := 78) rfl jM105 jq105_75 (jc_ne hl5 jb_r0) (fun c1 => ?_) (fun c1 => ?_)
  · have h1 := h.1 c1
    refine jaL0 (p := 101) rfl jM105 jq105_100 ?_
    refine jaL2 (p := 102) rfl jM105 jq105_101 ?_
    refine jiL4 (p := 104) rfl jM105 jq105_102 ?_
    obtain ⟨c2, h2⟩ := h1
    refine jw_callV [(jb_v l4)] jM105 jq105_104 rfl rfl (hl2 c2).ob rfl jM39 rfl rfl ?_
    exact h2
  · have h1 := h.2 c1
    refine jiL6 (p := 80) rfl jM105 jq105_78 ?_
    refine jiL3 (p := 81) rfl jM105 jq105_80 ?_
    refine jw_ic (p := 84) rfl jM105 jq105_81 (jc_lt hs0 hl3) (fun c3 => ?_) (fun c3 => ?_)
    · have h3 := h1.1 c3
      refine jaL0 (p := 96) rfl jM105 jq105_95 ?_
      refine jw_iconst (p := 97) rfl jM105 jq105_96 ?_
      refine jw_callV [(jb_v 3)] jM105 jq105_97 rfl rfl (jo_86 hF) rfl jM101 rfl rfl ?_
      exact h3
    · have h3 := h1.2 c3
      refine jiL6 (p := 86) rfl jM105 jq105_84 ?_
      refine jaL0 (p := 87) rfl jM105 jq105_86 ?_
      refine jw_getP (p := 90) (i := 6) (q := 90) rfl jM105 jq105_87 rfl (jo_86 hF) je_9_6 (jp_86_6 hF) ?_
      refine jiL1 (p := 91) rfl jM105 jq105_90 ?_
      obtain ⟨c4, h4⟩ := h3
      refine jw_iald (p := 92) rfl jM105 jq105_91 (ja_90 hF) c4.1 c4.2 ?_
      refine jw_ic (p := 95) rfl jM105 jq105_92 (jc_lt hs0 (jb_r_i _ _ _)) (fun c5 => ?_) (fun c5 => ?_)
      · have h5 := h4.1 c5
        refine jaL0 (p := 101) rfl jM105 jq105_100 ?_
        refine jaL2 (p := 102) rfl jM105 jq105_101 ?_
        refine jiL4 (p := 104) rfl jM105 jq105_102 ?_
        obtain ⟨c6, h6⟩ := h5
        refine jw_callV [(jb_v l4)] jM105 jq105_104 rfl rfl (hl2 c6).ob rfl jM39 rfl rfl ?_
        exact h6
      · have h5 := h4.2 c5
        refine jaL0 (p := 96) rfl jM105 jq105_95 ?_
        refine jw_iconst (p := 97) rfl jM105 jq105_96 ?_
        refine jw_callV [(jb_v 3)] jM105 jq105_97 rfl rfl (jo_86 hF) rfl jM101 rfl rfl ?_
        exact h5
-- 107 PageLoom.open(I)V
theorem jk107_0 {d : Nat} {σ : ib_H} {Q : ib_O → Prop} {l1 : Int} (hF : jb_F σ) (hl1 : jb_r l1)
    (h : jb_w d 134 0 [some (jb_v l1)] [] σ (jb_k (d + 1) 107 1 [some (.ref 2), some (jb_v l1)] [] Q)) :
    jb_w (d + 1) 107 0 [some (.ref 2), some (jb_v l1)] [] σ Q := by
  refine jiL1 (p := 1) rfl jM107 jq107_0 ?_
  refine jw_callS [(jb_v l1)] jM107 jq107_1 rfl rfl rfl jM134 rfl rfl ?_
  exact h
theorem jk107_4 {d : Nat} {σ : ib_H} {Q : ib_O → Prop} {l1 : Int} (hF : jb_F σ) (hl1 : jb_r l1)
    (h : jb_w d 137 0 [some (.ref 2)] [] σ (jb_k (d + 1) 107 5 [some (.ref 2), some (jb_v l1)] [] Q)) :
    jb_w (d + 1) 107 4 [some (.ref 2), some (jb_v l1)] [] σ Q := by
  refine jaL0 (p := 5) rfl jM107 jq107_4 ?_
  refine jw_callV [] jM107 jq107_5 rfl rfl (jo_2 hF) rfl jM137 rfl rfl ?_
  exact h
theorem jk107_8 {d : Nat} {σ : ib_H} {Q : ib_O → Prop} {l1 : Int} (hF : jb_F σ) (hl1 : jb_r l1)
    (h : (0 ≤ l1 ∧ l1 < 4) ∧ ((jb_i σ 58 l1 = 0 → jb_w (d + 5) 62 0 [some (.ref 57), some (jb_v l1)] [] σ (jb_k (d + 6) 107 35 [some (.ref 2), some (jb_v l1)] [] Q)) ∧ (¬ (jb_i σ 58 l1 = 0) → Q (.inr 1, ib_cost σ 1 6)))) :
    jb_w (d + 6) 107 8 [some (.ref 2), some (jb_v l1)] [] σ Q := by
  refine jaL0 (p := 9) rfl jM107 jq107_8 ?_
  refine jw_getP (p := 12) (i := 1) (q := 57) rfl jM107 jq107_9 rfl (jo_2 hF) je_10_1 (jp_2_1 hF) ?_
  refine jw_getP (p := 15) (i := 0) (q := 58) rfl jM107 jq107_12 rfl (jo_57 hF) je_6_0 (jp_57_0 hF) ?_
  refine jiL1 (p := 16) rfl jM107 jq107_15 ?_
  obtain ⟨c1, h1⟩ := h
  refine jw_bald (p := 17) rfl jM107 jq107_16 (ja_58 hF) c1.1 c1.2 ?_
  refine jw_if (p := 20) rfl jM107 jq107_17 (jc_eq (jb_r_i _ _ _) jb_r0) (fun c2 => ?_) (fun c2 => ?_)
  · have h2 := h1.1 c2
    refine jaL0 (p := 31) rfl jM107 jq107_30 ?_
    refine jw_getP (p := 34) (i := 1) (q := 57) rfl jM107 jq107_31 rfl (jo_2 hF) je_10_1 (jp_2_1 hF) ?_
    refine jiL1 (p := 35) rfl jM107 jq107_34 ?_
    refine jw_callV [(jb_v l1)] jM107 jq107_35 rfl rfl (jo_57 hF) rfl jM62 rfl rfl ?_
    exact h2
  · have h2 := h1.2 c2
    exact jb_throw (k := 1) jM107 jq107_20 rfl (Nat.le_add_left_of_le (by decide)) h2
theorem jk107_38 {d : Nat} {σ : ib_H} {Q : ib_O → Prop} {l1 : Int} (hF : jb_F σ) (hl1 : jb_r l1)
    (h : Q (.inl none, σ)) :
    jb_w d 107 38 [some (.ref 2), some (jb_v l1)] [] σ Q := by
  exact jw_vret jM107 jq107_38 h
-- 108 PageLoom.put(III)I
theorem jk108_0 {d : Nat} {σ : ib_H} {Q : ib_O → Prop} {l1 : Int} {l2 : Int} {l3 : Int} (hF : jb_F σ) (hl1 : jb_r l1) (hl2 : jb_r l2) (hl3 : jb_r l3)
    (h : jb_w d 134 0 [some (jb_v l1)] [] σ (jb_k (d + 1) 108 1 [some (.ref 2), some (jb_v l1), some (jb_v l2), some (jb_v l3), none] [] Q)) :
    jb_w (d + 1) 108 0 [some (.ref 2), some (jb_v l1), some (jb_v l2), some (jb_v l3), none] [] σ Q := by
  refine jiL1 (p := 1) rfl jM108 jq108_0 ?_
  refine jw_callS [(jb_v l1)] jM108 jq108_1 rfl rfl rfl jM134 rfl rfl ?_
  exact h
theorem jk108_4 {d : Nat} {σ : ib_H} {Q : ib_O → Prop} {l1 : Int} {l2 : Int} {l3 : Int} (hF : jb_F σ) (hl1 : jb_r l1) (hl2 : jb_r l2) (hl3 : jb_r l3)
    (h : jb_w d 135 0 [some (jb_v l2)] [] σ (jb_k (d + 1) 108 5 [some (.ref 2), some (jb_v l1), some (jb_v l2), some (jb_v l3), none] [] Q)) :
    jb_w (d + 1) 108 4 [some (.ref 2), some (jb_v l1), some (jb_v l2), some (jb_v l3), none] [] σ Q := by
  refine jiL2 (p := 5) rfl jM108 jq108_4 ?_
  refine jw_callS [(jb_v l2)] jM108 jq108_5 rfl rfl rfl jM135 rfl rfl ?_
  exact h
theorem jk108_8 {d : Nat} {σ : ib_H} {Q : ib_O → Prop} {l1 : Int} {l2 : Int} {l3 : Int} (hF : jb_F σ) (hl1 : jb_r l1) (hl2 : jb_r l2) (hl3 : jb_r l3)
    (h : (l3 < 0 → Q (.inr 0, ib_cost σ 1 6)) ∧ (¬ (l3 < 0) → (l3 < 1000 → jb_w (d + 5) 138 0 [some (.ref 2), some (jb_v l1)] [] σ (jb_k (d + 6) 108 31 [some (.ref 2), some (jb_v l1), some (jb_v l2), some (jb_v l3), none] [] Q)) ∧ (¬ (l3 < 1000) → Q (.inr 0, ib_cost σ 1 6)))) :
    jb_w (d + 6) 108 8 [some (.ref 2), some (jb_v l1), some (jb_v l2), some (jb_v l3), none] [] σ Q := by
  refine jiL3 (p := 9) rfl jM108 jq108_8 ?_
  refine jw_if (p := 12) rfl jM108 jq108_9 (jc_lt hl3 jb_r0) (fun c1 => ?_) (fun c1 => ?_)
  · have h1 := h.1 c1
    exact jb_throw (k := 0) jM108 jq108_19 rfl (Nat.le_add_left_of_le (by decide)) h1
  · have h1 := h.2 c1
    refine jiL3 (p := 13) rfl jM108 jq108_12 ?_
    refine jw_sipush (p := 16) rfl jM108 jq108_13 (by decide) ?_
    refine jw_ic (p := 19) rfl jM108 jq108_16 (jc_lt hl3 (jb_rn rfl)) (fun c2 => ?_) (fun c2 => ?_)
    · have h2 := h1.1 c2
      refine jaL0 (p := 30) rfl jM108 jq108_29 ?_
      refine jiL1 (p := 31) rfl jM108 jq108_30 ?_
      refine jw_callV [(jb_v l1)] jM108 jq108_31 rfl rfl (jo_2 hF) rfl jM138 rfl rfl ?_
      exact h2
    · have h2 := h1.2 c2
      exact jb_throw (k := 0) jM108 jq108_19 rfl (Nat.le_add_left_of_le (by decide)) h2
theorem jk108_34 {d : Nat} {σ : ib_H} {Q : ib_O → Prop} {l1 : Int} {l2 : Int} {l3 : Int} (hF : jb_F σ) (hl1 : jb_r l1) (hl2 : jb_r l2) (hl3 : jb_r l3)
    (h : jb_w d 139 0 [some (.ref 2)] [] σ (jb_k (d + 1) 108 35 [some (.ref 2), some (jb_v l1), some (jb_v l2), some (jb_v l3), none] [] Q)) :
    jb_w (d + 1) 108 34 [some (.ref 2), some (jb_v l1), some (jb_v l2), some (jb_v l3), none] [] σ Q := by
  refine jaL0 (p := 35) rfl jM108 jq108_34 ?_
  refine jw_callV [] jM108 jq108_35 rfl rfl (jo_2 hF) rfl jM139 rfl rfl ?_
  exact h
theorem jk108_38 {d : Nat} {σ : ib_H} {Q : ib_O → Prop} {l1 : Int} {l2 : Int} {l3 : Int} (hF : jb_F σ) (hl1 : jb_r l1) (hl2 : jb_r l2) (hl3 : jb_r l3)
    (h : jb_w d 142 0 [some (.ref 2), some (jb_v l1), some (jb_v l2), none, none, none] [] σ (jb_k (d + 1) 108 41 [some (.ref 2), some (jb_v l1), some (jb_v l2), some (jb_v l3), none] [] Q)) :
    jb_w (d + 1) 108 38 [some (.ref 2), some (jb_v l1), some (jb_v l2), some (jb_v l3), none] [] σ Q := by
  refine jaL0 (p := 39) rfl jM108 jq108_38 ?_
  refine jiL1 (p := 40) rfl jM108 jq108_39 ?_
  refine jiL2 (p := 41) rfl jM108 jq108_40 ?_
  refine jw_callV [(jb_v l1), (jb_v l2)] jM108 jq108_41 rfl rfl (jo_2 hF) rfl jM142 rfl rfl ?_
  exact h
theorem jk108_44 {d : Nat} {σ : ib_H} {Q : ib_O → Prop} {l1 : Int} {l2 : Int} {l3 : Int} {s0 : Int} (hF : jb_F σ) (hl1 : jb_r l1) (hl2 : jb_r l2) (hl3 : jb_r l3) (hs0 : jb_r s0)
    (h : (¬ s0 = 0 → (¬ s0 = 0 → jb_w d 140 0 [some (.ref 2), some (jb_v s0)] [] σ (jb_k (d + 1) 108 80 [some (.ref 2), some (jb_v l1), some (jb_v l2), some (jb_v l3), some (jb_v s0)] [] Q)) ∧ (¬ (¬ s0 = 0) → jb_w d 144 0 [some (.ref 2), some (jb_v l1), some (jb_v l2), some (jb_v l3), none] [] σ (jb_k (d + 1) 108 67 [some (.ref 2), some (jb_v l1), some (jb_v l2), some (jb_v l3), some (jb_v s0)] [] Q))) ∧ (¬ (¬ s0 = 0) → jb_w d 143 0 [some (.ref 2), some (jb_v l2), none, none] [] σ (jb_k (d + 1) 108 53 [some (.ref 2), some (jb_v l1), some (jb_v l2), some (jb_v l3), some (jb_v s0)] [] Q))) :
    jb_w (d + 1) 108 44 [some (.ref 2), some (jb_v l1), some (jb_v l2), some (jb_v l3), none] [(jb_v s0)] σ Q := by
  refine jiS4 (p := 46) rfl jM108 jq108_44 ?_
  refine jiL4 (p := 48) rfl jM108 jq108_46 ?_
  refine jw_if (p := 51) rfl jM108 jq108_48 (jc_ne hs0 jb_r0) (fun c1 => ?_) (fun c1 => ?_)
  · have h1 := h.1 c1
    refine jiL4 (p := 60) rfl jM108 jq108_58 ?_
    refine jw_if (p := 63) rfl jM108 jq108_60 (jc_ne hs0 jb_r0) (fun c2 => ?_) (fun c2 => ?_)
    · have h2 := h1.1 c2
      refine jaL0 (p := 78) rfl jM108 jq108_77 ?_
      refine jiL4 (p := 80) rfl jM108 jq108_78 ?_
      refine jw_callV [(jb_v s0)] jM108 jq108_80 rfl rfl (jo_2 hF) rfl jM140 rfl rfl ?_
      exact h2
    · have h2 := h1.2 c2
      refine jaL0 (p := 64) rfl jM108 jq108_63 ?_
      refine jiL1 (p := 65) rfl jM108 jq108_64 ?_
      refine jiL2 (p := 66) rfl jM108 jq108_65 ?_
      refine jiL3 (p := 67) rfl jM108 jq108_66 ?_
      refine jw_callV [(jb_v l1), (jb_v l2), (jb_v l3)] jM108 jq108_67 rfl rfl (jo_2 hF) rfl jM144 rfl rfl ?_
      exact h2
  · have h1 := h.2 c1
    refine jaL0 (p := 52) rfl jM108 jq108_51 ?_
    refine jiL2 (p := 53) rfl jM108 jq108_52 ?_
    refine jw_callV [(jb_v l2)] jM108 jq108_53 rfl rfl (jo_2 hF) rfl jM143 rfl rfl ?_
    exact h1
theorem jk108_83 {d : Nat} {σ : ib_H} {Q : ib_O → Prop} {l1 : Int} {l2 : Int} {l3 : Int} {l4 : Int} {s0 : Int} (hF : jb_F σ) (hl1 : jb_r l1) (hl2 : jb_r l2) (hl3 : jb_r l3) (hl4 : jb_r l4) (hs0 : jb_r s0)
    (h : Q (.inl (some (jb_v s0)), σ)) :
    jb_w d 108 83 [some (.ref 2), some (jb_v l1), some (jb_v l2), some (jb_v l3), some (jb_v l4)] [(jb_v s0)] σ Q := by
  exact jw_iret jM108 jq108_83 (fun z => absurd z (by decide)) h
theorem jk108_70 {d : Nat} {σ : ib_H} {Q : ib_O → Prop} {l1 : Int} {l2 : Int} {l3 : Int} {l4 : Int} {s0 : Int} (hF : jb_F σ) (hl1 : jb_r l1) (hl2 : jb_r l2) (hl3 : jb_r l3) (hl4 : jb_r l4) (hs0 : jb_r s0)
    (h : (¬ s0 = 0 → jb_w d 140 0 [some (.ref 2), some (jb_v l4)] [] σ (jb_k (d + 1) 108 80 [some (.ref 2), some (jb_v l1), some (jb_v l2), some (jb_v l3), some (jb_v l4)] [] Q)) ∧ (¬ (¬ s0 = 0) → jb_w d 140 0 [some (.ref 2), some (jb_v (-4))] [] σ (jb_k (d + 1) 108 80 [some (.ref 2), some (jb_v l1), some (jb_v l2), some (jb_v l3), some (jb_v (-4))] [] Q))) :
    jb_w (d + 1) 108 70 [some (.ref 2), some (jb_v l1), some (jb_v l2), some (jb_v l3), some (jb_v l4)] [(jb_v s0)] σ Q := by
  refine jw_if (p := 73) rfl jM108 jq108_70 (jc_ne hs0 jb_r0) (fun c1 => ?_) (fun c1 => ?_)
  · have h1 := h.1 c1
    refine jaL0 (p := 78) rfl jM108 jq108_77 ?_
    refine jiL4 (p := 80) rfl jM108 jq108_78 ?_
    refine jw_callV [(jb_v l4)] jM108 jq108_80 rfl rfl (jo_2 hF) rfl jM140 rfl rfl ?_
    exact h1
  · have h1 := h.2 c1
    refine jw_bipush (p := 75) rfl jM108 jq108_73 (by decide) ?_
    refine jiS4 (p := 77) rfl jM108 jq108_75 ?_
    refine jaL0 (p := 78) rfl jM108 jq108_77 ?_
    refine jiL4 (p := 80) rfl jM108 jq108_78 ?_
    refine jw_callV [(jb_v (-4))] jM108 jq108_80 rfl rfl (jo_2 hF) rfl jM140 rfl rfl ?_
    exact h1
theorem jk108_56 {d : Nat} {σ : ib_H} {Q : ib_O → Prop} {l1 : Int} {l2 : Int} {l3 : Int} {l4 : Int} {s0 : Int} (hF : jb_F σ) (hl1 : jb_r l1) (hl2 : jb_r l2) (hl3 : jb_r l3) (hl4 : jb_r l4) (hs0 : jb_r s0)
    (h : (¬ s0 = 0 → jb_w d 140 0 [some (.ref 2), some (jb_v s0)] [] σ (jb_k (d + 1) 108 80 [some (.ref 2), some (jb_v l1), some (jb_v l2), some (jb_v l3), some (jb_v s0)] [] Q)) ∧ (¬ (¬ s0 = 0) → jb_w d 144 0 [some (.ref 2), some (jb_v l1), some (jb_v l2), some (jb_v l3), none] [] σ (jb_k (d + 1) 108 67 [some (.ref 2), some (jb_v l1), some (jb_v l2), some (jb_v l3), some (jb_v s0)] [] Q))) :
    jb_w (d + 1) 108 56 [some (.ref 2), some (jb_v l1), some (jb_v l2), some (jb_v l3), some (jb_v l4)] [(jb_v s0)] σ Q := by
  refine jiS4 (p := 58) rfl jM108 jq108_56 ?_
  refine jiL4 (p := 60) rfl jM108 jq108_58 ?_
  refine jw_if (p := 63) rfl jM108 jq108_60 (jc_ne hs0 jb_r0) (fun c1 => ?_) (fun c1 => ?_)
  · have h1 := h.1 c1
    refine jaL0 (p := 78) rfl jM108 jq108_77 ?_
    refine jiL4 (p := 80) rfl jM108 jq108_78 ?_
    refine jw_callV [(jb_v s0)] jM108 jq108_80 rfl rfl (jo_2 hF) rfl jM140 rfl rfl ?_
    exact h1
  · have h1 := h.2 c1
    refine jaL0 (p := 64) rfl jM108 jq108_63 ?_
    refine jiL1 (p := 65) rfl jM108 jq108_64 ?_
    refine jiL2 (p := 66) rfl jM108 jq108_65 ?_
    refine jiL3 (p := 67) rfl jM108 jq108_66 ?_
    refine jw_callV [(jb_v l1), (jb_v l2), (jb_v l3)] jM108 jq108_67 rfl rfl (jo_2 hF) rfl jM144 rfl rfl ?_
    exact h1
-- 109 PageLoom.take(II)I
theorem jk109_0 {d : Nat} {σ : ib_H} {Q : ib_O → Prop} {l1 : Int} {l2 : Int} (hF : jb_F σ) (hl1 : jb_r l1) (hl2 : jb_r l2)
    (h : jb_w d 134 0 [some (jb_v l1)] [] σ (jb_k (d + 1) 109 1 [some (.ref 2), some (jb_v l1), some (jb_v l2), none, none, none, none, none] [] Q)) :
    jb_w (d + 1) 109 0 [some (.ref 2), some (jb_v l1), some (jb_v l2), none, none, none, none, none] [] σ Q := by
  refine jiL1 (p := 1) rfl jM109 jq109_0 ?_
  refine jw_callS [(jb_v l1)] jM109 jq109_1 rfl rfl rfl jM134 rfl rfl ?_
  exact h
theorem jk109_4 {d : Nat} {σ : ib_H} {Q : ib_O → Prop} {l1 : Int} {l2 : Int} (hF : jb_F σ) (hl1 : jb_r l1) (hl2 : jb_r l2)
    (h : jb_w d 135 0 [some (jb_v l2)] [] σ (jb_k (d + 1) 109 5 [some (.ref 2), some (jb_v l1), some (jb_v l2), none, none, none, none, none] [] Q)) :
    jb_w (d + 1) 109 4 [some (.ref 2), some (jb_v l1), some (jb_v l2), none, none, none, none, none] [] σ Q := by
  refine jiL2 (p := 5) rfl jM109 jq109_4 ?_
  refine jw_callS [(jb_v l2)] jM109 jq109_5 rfl rfl rfl jM135 rfl rfl ?_
  exact h
theorem jk109_8 {d : Nat} {σ : ib_H} {Q : ib_O → Prop} {l1 : Int} {l2 : Int} (hF : jb_F σ) (hl1 : jb_r l1) (hl2 : jb_r l2)
    (h : jb_w d 138 0 [some (.ref 2), some (jb_v l1)] [] σ (jb_k (d + 1) 109 10 [some (.ref 2), some (jb_v l1), some (jb_v l2), none, none, none, none, none] [] Q)) :
    jb_w (d + 1) 109 8 [some (.ref 2), some (jb_v l1), some (jb_v l2), none, none, none, none, none] [] σ Q := by
  refine jaL0 (p := 9) rfl jM109 jq109_8 ?_
  refine jiL1 (p := 10) rfl jM109 jq109_9 ?_
  refine jw_callV [(jb_v l1)] jM109 jq109_10 rfl rfl (jo_2 hF) rfl jM138 rfl rfl ?_
  exact h
theorem jk109_13 {d : Nat} {σ : ib_H} {Q : ib_O → Prop} {l1 : Int} {l2 : Int} (hF : jb_F σ) (hl1 : jb_r l1) (hl2 : jb_r l2)
    (h : jb_w d 139 0 [some (.ref 2)] [] σ (jb_k (d + 1) 109 14 [some (.ref 2), some (jb_v l1), some (jb_v l2), none, none, none, none, none] [] Q)) :
    jb_w (d + 1) 109 13 [some (.ref 2), some (jb_v l1), some (jb_v l2), none, none, none, none, none] [] σ Q := by
  refine jaL0 (p := 14) rfl jM109 jq109_13 ?_
  refine jw_callV [] jM109 jq109_14 rfl rfl (jo_2 hF) rfl jM139 rfl rfl ?_
  exact h
theorem jk109_17 {d : Nat} {σ : ib_H} {Q : ib_O → Prop} {l1 : Int} {l2 : Int} (hF : jb_F σ) (hl1 : jb_r l1) (hl2 : jb_r l2)
    (h : jb_w d 142 0 [some (.ref 2), some (jb_v l1), some (jb_v l2), none, none, none] [] σ (jb_k (d + 1) 109 20 [some (.ref 2), some (jb_v l1), some (jb_v l2), none, none, none, none, none] [] Q)) :
    jb_w (d + 1) 109 17 [some (.ref 2), some (jb_v l1), some (jb_v l2), none, none, none, none, none] [] σ Q := by
  refine jaL0 (p := 18) rfl jM109 jq109_17 ?_
  refine jiL1 (p := 19) rfl jM109 jq109_18 ?_
  refine jiL2 (p := 20) rfl jM109 jq109_19 ?_
  refine jw_callV [(jb_v l1), (jb_v l2)] jM109 jq109_20 rfl rfl (jo_2 hF) rfl jM142 rfl rfl ?_
  exact h
theorem jk109_23 {d : Nat} {σ : ib_H} {Q : ib_O → Prop} {l1 : Int} {l2 : Int} {s0 : Int} (hF : jb_F σ) (hl1 : jb_r l1) (hl2 : jb_r l2) (hs0 : jb_r s0)
    (h : (s0 = 0 → jb_w d 71 0 [some (.ref 79), some (jb_v l2), none, none, none] [] σ (jb_k (d + 1) 109 39 [some (.ref 2), some (jb_v l1), some (jb_v l2), some (jb_v s0), none, none, none, none] [] Q)) ∧ (¬ (s0 = 0) → jb_w d 140 0 [some (.ref 2), some (jb_v s0)] [] σ (jb_k (d + 1) 109 30 [some (.ref 2), some (jb_v l1), some (jb_v l2), some (jb_v s0), none, none, none, none] [] Q))) :
    jb_w (d + 1) 109 23 [some (.ref 2), some (jb_v l1), some (jb_v l2), none, none, none, none, none] [(jb_v s0)] σ Q := by
  refine jiS3 (p := 24) rfl jM109 jq109_23 ?_
  refine jiL3 (p := 25) rfl jM109 jq109_24 ?_
  refine jw_if (p := 28) rfl jM109 jq109_25 (jc_eq hs0 jb_r0) (fun c1 => ?_) (fun c1 => ?_)
  · have h1 := h.1 c1
    refine jaL0 (p := 35) rfl jM109 jq109_34 ?_
    refine jw_getP (p := 38) (i := 4) (q := 79) rfl jM109 jq109_35 rfl (jo_2 hF) je_10_4 (jp_2_4 hF) ?_
    refine jiL2 (p := 39) rfl jM109 jq109_38 ?_
    refine jw_callV [(jb_v l2)] jM109 jq109_39 rfl rfl (jo_79 hF) rfl jM71 rfl rfl ?_
    exact h1
  · have h1 := h.2 c1
    refine jaL0 (p := 29) rfl jM109 jq109_28 ?_
    refine jiL3 (p := 30) rfl jM109 jq109_29 ?_
    refine jw_callV [(jb_v s0)] jM109 jq109_30 rfl rfl (jo_2 hF) rfl jM140 rfl rfl ?_
    exact h1
theorem jk109_42 {d : Nat} {σ : ib_H} {Q : ib_O → Prop} {l1 : Int} {l2 : Int} {l3 : Int} {s0 : Int} (hF : jb_F σ) (hl1 : jb_r l1) (hl2 : jb_r l2) (hl3 : jb_r l3) (hs0 : jb_r s0)
    (h : (¬ s0 = 0 → jb_w d 72 0 [some (.ref 79), some (jb_v l2), none] [] σ (jb_k (d + 1) 109 57 [some (.ref 2), some (jb_v l1), some (jb_v l2), some (jb_v l3), none, none, none, none] [] Q)) ∧ (¬ (¬ s0 = 0) → jb_w d 140 0 [some (.ref 2), some (jb_v (-4))] [] σ (jb_k (d + 1) 109 48 [some (.ref 2), some (jb_v l1), some (jb_v l2), some (jb_v l3), none, none, none, none] [] Q))) :
    jb_w (d + 1) 109 42 [some (.ref 2), some (jb_v l1), some (jb_v l2), some (jb_v l3), none, none, none, none] [(jb_v s0)] σ Q := by
  refine jw_if (p := 45) rfl jM109 jq109_42 (jc_ne hs0 jb_r0) (fun c1 => ?_) (fun c1 => ?_)
  · have h1 := h.1 c1
    refine jaL0 (p := 53) rfl jM109 jq109_52 ?_
    refine jw_getP (p := 56) (i := 4) (q := 79) rfl jM109 jq109_53 rfl (jo_2 hF) je_10_4 (jp_2_4 hF) ?_
    refine jiL2 (p := 57) rfl jM109 jq109_56 ?_
    refine jw_callV [(jb_v l2)] jM109 jq109_57 rfl rfl (jo_79 hF) rfl jM72 rfl rfl ?_
    exact h1
  · have h1 := h.2 c1
    refine jaL0 (p := 46) rfl jM109 jq109_45 ?_
    refine jw_bipush (p := 48) rfl jM109 jq109_46 (by decide) ?_
    refine jw_callV [(jb_v (-4))] jM109 jq109_48 rfl rfl (jo_2 hF) rfl jM140 rfl rfl ?_
    exact h1
theorem jk109_33 {d : Nat} {σ : ib_H} {Q : ib_O → Prop} {l1 : Int} {l2 : Int} {l3 : Int} {s0 : Int} (hF : jb_F σ) (hl1 : jb_r l1) (hl2 : jb_r l2) (hl3 : jb_r l3) (hs0 : jb_r s0)
    (h : Q (.inl (some (jb_v s0)), σ)) :
    jb_w d 109 33 [some (.ref 2), some (jb_v l1), some (jb_v l2), some (jb_v l3), none, none, none, none] [(jb_v s0)] σ Q := by
  exact jw_iret jM109 jq109_33 (fun z => absurd z (by decide)) h
theorem jk109_60 {d : Nat} {σ : ib_H} {Q : ib_O → Prop} {l1 : Int} {l2 : Int} {l3 : Int} {s0 : Int} (hF : jb_F σ) (hl1 : jb_r l1) (hl2 : jb_r l2) (hl3 : jb_r l3) (hs0 : jb_r s0)
    (h : (¬ s0 = (-1) → jb_w d 144 0 [some (.ref 2), some (jb_v l1), some (jb_v l2), some (jb_v (-1)), none] [] σ (jb_k (d + 1) 109 74 [some (.ref 2), some (jb_v l1), some (jb_v l2), some (jb_v l3), some (jb_v s0), none, none, none] [] Q)) ∧ (¬ (¬ s0 = (-1)) → Q (.inl (some (jb_v (-1))), σ))) :
    jb_w (d + 1) 109 60 [some (.ref 2), some (jb_v l1), some (jb_v l2), some (jb_v l3), none, none, none, none] [(jb_v s0)] σ Q := by
  refine jiS4 (p := 62) rfl jM109 jq109_60 ?_
  refine jiL4 (p := 64) rfl jM109 jq109_62 ?_
  refine jw_iconst (p := 65) rfl jM109 jq109_64 ?_
  refine jw_ic (p := 68) rfl jM109 jq109_65 (jc_ne hs0 (jb_rn rfl)) (fun c1 => ?_) (fun c1 => ?_)
  · have h1 := h.1 c1
    refine jaL0 (p := 71) rfl jM109 jq109_70 ?_
    refine jiL1 (p := 72) rfl jM109 jq109_71 ?_
    refine jiL2 (p := 73) rfl jM109 jq109_72 ?_
    refine jw_iconst (p := 74) rfl jM109 jq109_73 ?_
    refine jw_callV [(jb_v l1), (jb_v l2), (jb_v (-1))] jM109 jq109_74 rfl rfl (jo_2 hF) rfl jM144 rfl rfl ?_
    exact h1
  · have h1 := h.2 c1
    refine jw_iconst (p := 69) rfl jM109 jq109_68 ?_
    exact jw_iret jM109 jq109_69 (fun z => absurd z (by decide)) h1
theorem jk109_51 {d : Nat} {σ : ib_H} {Q : ib_O → Prop} {l1 : Int} {l2 : Int} {l3 : Int} {s0 : Int} (hF : jb_F σ) (hl1 : jb_r l1) (hl2 : jb_r l2) (hl3 : jb_r l3) (hs0 : jb_r s0)
    (h : Q (.inl (some (jb_v s0)), σ)) :
    jb_w d 109 51 [some (.ref 2), some (jb_v l1), some (jb_v l2), some (jb_v l3), none, none, none, none] [(jb_v s0)] σ Q := by
  exact jw_iret jM109 jq109_51 (fun z => absurd z (by decide)) h
theorem jk109_77 {d : Nat} {σ : ib_H} {Q : ib_O → Prop} {l1 : Int} {l2 : Int} {l3 : Int} {l4 : Int} {s0 : Int} (hF : jb_F σ) (hl1 : jb_r l1) (hl2 : jb_r l2) (hl3 : jb_r l3) (hl4 : jb_r l4) (hs0 : jb_r s0)
    (h : jb_w d 109 82 [some (.ref 2), some (jb_v l1), some (jb_v l2), some (jb_v l3), some (jb_v l4), some (jb_v s0), some (jb_v 0), none] [] σ Q) :
    jb_w d 109 77 [some (.ref 2), some (jb_v l1), some (jb_v l2), some (jb_v l3), some (jb_v l4), none, none, none] [(jb_v s0)] σ Q := by
  refine jiS5 (p := 79) rfl jM109 jq109_77 ?_
  refine jw_iconst (p := 80) rfl jM109 jq109_79 ?_
  refine jiS6 (p := 82) rfl jM109 jq109_80 ?_
  exact h
theorem jk109_82 {d : Nat} {σ : ib_H} {Q : ib_O → Prop} {l1 : Int} {l2 : Int} {l3 : Int} {l4 : Int} {l5 : Int} {l6 : Int} (hF : jb_F σ) (hl1 : jb_r l1) (hl2 : jb_r l2) (hl3 : jb_r l3) (hl4 : jb_r l4) (hl5 : jb_r l5) (hl6 : jb_r l6)
    (h : (24 ≤ l6 → (l5 = 0 → jb_w d 140 0 [some (.ref 2), some (jb_v (-4))] [] σ (jb_k (d + 1) 109 150 [some (.ref 2), some (jb_v l1), some (jb_v l2), some (jb_v l3), some (jb_v l4), some (jb_v l5), some (jb_v l6), none] [] Q)) ∧ (¬ (l5 = 0) → jb_w d 140 0 [some (.ref 2), some (jb_v l4)] [] σ (jb_k (d + 1) 109 150 [some (.ref 2), some (jb_v l1), some (jb_v l2), some (jb_v l3), some (jb_v l4), some (jb_v l5), some (jb_v l6), none] [] Q))) ∧ (¬ (24 ≤ l6) → (l5 = 0 → (l5 = 0 → jb_w d 140 0 [some (.ref 2), some (jb_v (-4))] [] σ (jb_k (d + 1) 109 150 [some (.ref 2), some (jb_v l1), some (jb_v l2), some (jb_v l3), some (jb_v l4), some (jb_v l5), some (jb_v l6), none] [] Q)) ∧ (¬ (l5 = 0) → jb_w d 140 0 [some (.ref 2), some (jb_v l4)] [] σ (jb_k (d + 1) 109 150 [some (.ref 2), some (jb_v l1), some (jb_v l2), some (jb_v l3), some (jb_v l4), some (jb_v l5), some (jb_v l6), none] [] Q))) ∧ (¬ (l5 = 0) → jb_w d 81 0 [some (.ref 79), none] [] σ (jb_k (d + 1) 109 98 [some (.ref 2), some (jb_v l1), some (jb_v l2), some (jb_v l3), some (jb_v l4), some (jb_v l5), some (jb_v l6), none] [] Q)))) :
    jb_w (d + 1) 109 82 [some (.ref 2), some (jb_v l1), some (jb_v l2), some (jb_v l3), some (jb_v l4), some (jb_v l5), some (jb_v l6), none] [] σ Q := by
  refine jiL6 (p := 84) rfl jM109 jq109_82 ?_
  refine jw_bipush (p := 86) rfl jM109 jq109_84 (by decide) ?_
  refine jw_ic (p := 89) rfl jM109 jq109_86 (jc_ge hl6 (jb_rn rfl)) (fun c1 => ?_) (fun c1 => ?_)
  · have h1 := h.1 c1
    refine jaL0 (p := 138) rfl jM109 jq109_137 ?_
    refine jiL5 (p := 140) rfl jM109 jq109_138 ?_
    refine jw_if (p := 143) rfl jM109 jq109_140 (jc_eq hl5 jb_r0) (fun c2 => ?_) (fun c2 => ?_)
    · have h2 := h1.1 c2
      refine jw_bipush (p := 150) rfl jM109 jq109_148 (by decide) ?_
      refine jw_callV [(jb_v (-4))] jM109 jq109_150 rfl rfl (jo_2 hF) rfl jM140 rfl rfl ?_
      exact h2
    · have h2 := h1.2 c2
      refine jiL4 (p := 145) rfl jM109 jq109_143 ?_
      refine jw_goto jM109 jq109_145 ?_
      refine jw_callV [(jb_v l4)] jM109 jq109_150 rfl rfl (jo_2 hF) rfl jM140 rfl rfl ?_
      exact h2
  · have h1 := h.2 c1
    refine jiL5 (p := 91) rfl jM109 jq109_89 ?_
    refine jw_if (p := 94) rfl jM109 jq109_91 (jc_eq hl5 jb_r0) (fun c3 => ?_) (fun c3 => ?_)
    · have h3 := h1.1 c3
      refine jaL0 (p := 138) rfl jM109 jq109_137 ?_
      refine jiL5 (p := 140) rfl jM109 jq109_138 ?_
      refine jw_if (p := 143) rfl jM109 jq109_140 (jc_eq hl5 jb_r0) (fun c4 => ?_) (fun c4 => ?_)
      · have h4 := h3.1 c4
        refine jw_bipush (p := 150) rfl jM109 jq109_148 (by decide) ?_
        refine jw_callV [(jb_v (-4))] jM109 jq109_150 rfl rfl (jo_2 hF) rfl jM140 rfl rfl ?_
        exact h4
      · have h4 := h3.2 c4
        refine jiL4 (p := 145) rfl jM109 jq109_143 ?_
        refine jw_goto jM109 jq109_145 ?_
        refine jw_callV [(jb_v l4)] jM109 jq109_150 rfl rfl (jo_2 hF) rfl jM140 rfl rfl ?_
        exact h4
    · have h3 := h1.2 c3
      refine jaL0 (p := 95) rfl jM109 jq109_94 ?_
      refine jw_getP (p := 98) (i := 4) (q := 79) rfl jM109 jq109_95 rfl (jo_2 hF) je_10_4 (jp_2_4 hF) ?_
      refine jw_callV [] jM109 jq109_98 rfl rfl (jo_79 hF) rfl jM81 rfl rfl ?_
      exact h3
theorem jk109_153 {d : Nat} {σ : ib_H} {Q : ib_O → Prop} {l1 : Int} {l2 : Int} {l3 : Int} {l4 : Int} {l5 : Int} {l6 : Int} {s0 : Int} (hF : jb_F σ) (hl1 : jb_r l1) (hl2 : jb_r l2) (hl3 : jb_r l3) (hl4 : jb_r l4) (hl5 : jb_r l5) (hl6 : jb_r l6) (hs0 : jb_r s0)
    (h : Q (.inl (some (jb_v s0)), σ)) :
    jb_w d 109 153 [some (.ref 2), some (jb_v l1), some (jb_v l2), some (jb_v l3), some (jb_v l4), some (jb_v l5), some (jb_v l6), none] [(jb_v s0)] σ Q := by
  exact jw_iret jM109 jq109_153 (fun z => absurd z (by decide)) h
theorem jk109_101 {d : Nat} {σ : ib_H} {Q : ib_O → Prop} {l1 : Int} {l2 : Int} {l3 : Int} {l4 : Int} {l5 : Int} {l6 : Int} {s0 : Int} (hF : jb_F σ) (hl1 : jb_r l1) (hl2 : jb_r l2) (hl3 : jb_r l3) (hl4 : jb_r l4) (hl5 : jb_r l5) (hl6 : jb_r l6) (hs0 : jb_r s0)
    (h : (s0 = 0 → (l5 = 0 → jb_w d 140 0 [some (.ref 2), some (jb_v (-4))] [] σ (jb_k (d + 1) 109 150 [some (.ref 2), some (jb_v l1), some (jb_v l2), some (jb_v l3), some (jb_v l4), some (jb_v l5), some (jb_v l6), none] [] Q)) ∧ (¬ (l5 = 0) → jb_w d 140 0 [some (.ref 2), some (jb_v l4)] [] σ (jb_k (d + 1) 109 150 [some (.ref 2), some (jb_v l1), some (jb_v l2), some (jb_v l3), some (jb_v l4), some (jb_v l5), some (jb_v l6), none] [] Q))) ∧ (¬ (s0 = 0) → jb_w d 70 0 [some (.ref 79)] [] σ (jb_k (d + 1) 109 108 [some (.ref 2), some (jb_v l1), some (jb_v l2), some (jb_v l3), some (jb_v l4), some (jb_v l5), some (jb_v l6), none] [] Q))) :
    jb_w (d + 1) 109 101 [some (.ref 2), some (jb_v l1), some (jb_v l2), some (jb_v l3), some (jb_v l4), some (jb_v l5), some (jb_v l6), none] [(jb_v s0)] σ Q := by
  refine jw_if (p := 104) rfl jM109 jq109_101 (jc_eq hs0 jb_r0) (fun c1 => ?_) (fun c1 => ?_)
  · have h1 := h.1 c1
    refine jaL0 (p := 138) rfl jM109 jq109_137 ?_
    refine jiL5 (p := 140) rfl jM109 jq109_138 ?_
    refine jw_if (p := 143) rfl jM109 jq109_140 (jc_eq hl5 jb_r0) (fun c2 => ?_) (fun c2 => ?_)
    · have h2 := h1.1 c2
      refine jw_bipush (p := 150) rfl jM109 jq109_148 (by decide) ?_
      refine jw_callV [(jb_v (-4))] jM109 jq109_150 rfl rfl (jo_2 hF) rfl jM140 rfl rfl ?_
      exact h2
    · have h2 := h1.2 c2
      refine jiL4 (p := 145) rfl jM109 jq109_143 ?_
      refine jw_goto jM109 jq109_145 ?_
      refine jw_callV [(jb_v l4)] jM109 jq109_150 rfl rfl (jo_2 hF) rfl jM140 rfl rfl ?_
      exact h2
  · have h1 := h.2 c1
    refine jaL0 (p := 105) rfl jM109 jq109_104 ?_
    refine jw_getP (p := 108) (i := 4) (q := 79) rfl jM109 jq109_105 rfl (jo_2 hF) je_10_4 (jp_2_4 hF) ?_
    refine jw_callV [] jM109 jq109_108 rfl rfl (jo_79 hF) rfl jM70 rfl rfl ?_
    exact h1
theorem jk109_111 {d : Nat} {σ : ib_H} {Q : ib_O → Prop} {l1 : Int} {l2 : Int} {l3 : Int} {l4 : Int} {l5 : Int} {l6 : Int} {s0 : Int} (hF : jb_F σ) (hl1 : jb_r l1) (hl2 : jb_r l2) (hl3 : jb_r l3) (hl4 : jb_r l4) (hl5 : jb_r l5) (hl6 : jb_r l6) (hs0 : jb_r s0)
    (h : jb_w d 82 0 [some (.ref 79)] [] σ (jb_k (d + 1) 109 123 [some (.ref 2), some (jb_v l1), some (jb_v l2), some (jb_v l3), some (jb_v l4), some (jb_v l5), some (jb_v l6), some (jb_v s0)] [(jb_v s0), (.ref 79)] Q)) :
    jb_w (d + 1) 109 111 [some (.ref 2), some (jb_v l1), some (jb_v l2), some (jb_v l3), some (jb_v l4), some (jb_v l5), some (jb_v l6), none] [(jb_v s0)] σ Q := by
  refine jiS7 (p := 113) rfl jM109 jq109_111 ?_
  refine jaL0 (p := 114) rfl jM109 jq109_113 ?_
  refine jw_getP (p := 117) (i := 4) (q := 79) rfl jM109 jq109_114 rfl (jo_2 hF) je_10_4 (jp_2_4 hF) ?_
  refine jiL7 (p := 119) rfl jM109 jq109_117 ?_
  refine jaL0 (p := 120) rfl jM109 jq109_119 ?_
  refine jw_getP (p := 123) (i := 4) (q := 79) rfl jM109 jq109_120 rfl (jo_2 hF) je_10_4 (jp_2_4 hF) ?_
  refine jw_callV [] jM109 jq109_123 rfl rfl (jo_79 hF) rfl jM82 rfl rfl ?_
  exact h
theorem jk109_126 {d : Nat} {σ : ib_H} {Q : ib_O → Prop} {l1 : Int} {l2 : Int} {l3 : Int} {l4 : Int} {l5 : Int} {l6 : Int} {l7 : Int} {s1 : Int} {s2 : Int} (hF : jb_F σ) (hl1 : jb_r l1) (hl2 : jb_r l2) (hl3 : jb_r l3) (hl4 : jb_r l4) (hl5 : jb_r l5) (hl6 : jb_r l6) (hl7 : jb_r l7) (hs1 : jb_r s1) (hs2 : jb_r s2)
    (h : jb_w d 83 0 [some (.ref 79), some (jb_v s1), some (jb_v s2), none, none, none] [] σ (jb_k (d + 1) 109 126 [some (.ref 2), some (jb_v l1), some (jb_v l2), some (jb_v l3), some (jb_v l4), some (jb_v l5), some (jb_v l6), some (jb_v l7)] [] Q)) :
    jb_w (d + 1) 109 126 [some (.ref 2), some (jb_v l1), some (jb_v l2), some (jb_v l3), some (jb_v l4), some (jb_v l5), some (jb_v l6), some (jb_v l7)] [(jb_v s2), (jb_v s1), (.ref 79)] σ Q := by
  refine jw_callV [(jb_v s1), (jb_v s2)] jM109 jq109_126 rfl rfl (jo_79 hF) rfl jM83 rfl rfl ?_
  exact h
theorem jk109_129 {d : Nat} {σ : ib_H} {Q : ib_O → Prop} {l1 : Int} {l2 : Int} {l3 : Int} {l4 : Int} {l5 : Int} {l6 : Int} {l7 : Int} {s0 : Int} (hF : jb_F σ) (hl1 : jb_r l1) (hl2 : jb_r l2) (hl3 : jb_r l3) (hl4 : jb_r l4) (hl5 : jb_r l5) (hl6 : jb_r l6) (hl7 : jb_r l7) (hs0 : jb_r s0)
    (h : jb_w d 109 82 [some (.ref 2), some (jb_v l1), some (jb_v l2), some (jb_v l3), some (jb_v l4), some (jb_v s0), some (jb_v (l6 + 1)), some (jb_v l7)] [] σ Q) :
    jb_w d 109 129 [some (.ref 2), some (jb_v l1), some (jb_v l2), some (jb_v l3), some (jb_v l4), some (jb_v l5), some (jb_v l6), some (jb_v l7)] [(jb_v s0)] σ Q := by
  refine jiS5 (p := 131) rfl jM109 jq109_129 ?_
  refine jiI6 (p := 134) rfl jM109 jq109_131 ?_
  refine jw_goto jM109 jq109_134 ?_
  exact h
theorem jk109_82_2 {d : Nat} {σ : ib_H} {Q : ib_O → Prop} {l1 : Int} {l2 : Int} {l3 : Int} {l4 : Int} {l5 : Int} {l6 : Int} {l7 : Int} (hF : jb_F σ) (hl1 : jb_r l1) (hl2 : jb_r l2) (hl3 : jb_r l3) (hl4 : jb_r l4) (hl5 : jb_r l5) (hl6 : jb_r l6) (hl7 : jb_r l7)
    (h : (24 ≤ l6 → (l5 = 0 → jb_w d 140 0 [some (.ref 2), some (jb_v (-4))] [] σ (jb_k (d + 1) 109 150 [some (.ref 2), some (jb_v l1), some (jb_v l2), some (jb_v l3), some (jb_v l4), some (jb_v l5), some (jb_v l6), some (jb_v l7)] [] Q)) ∧ (¬ (l5 = 0) → jb_w d 140 0 [some (.ref 2), some (jb_v l4)] [] σ (jb_k (d + 1) 109 150 [some (.ref 2), some (jb_v l1), some (jb_v l2), some (jb_v l3), some (jb_v l4), some (jb_v l5), some (jb_v l6), some (jb_v l7)] [] Q))) ∧ (¬ (24 ≤ l6) → (l5 = 0 → (l5 = 0 → jb_w d 140 0 [some (.ref 2), some (jb_v (-4))] [] σ (jb_k (d + 1) 109 150 [some (.ref 2), some (jb_v l1), some (jb_v l2), some (jb_v l3), some (jb_v l4), some (jb_v l5), some (jb_v l6), some (jb_v l7)] [] Q)) ∧ (¬ (l5 = 0) → jb_w d 140 0 [some (.ref 2), some (jb_v l4)] [] σ (jb_k (d + 1) 109 150 [some (.ref 2), some (jb_v l1), some (jb_v l2), some (jb_v l3), some (jb_v l4), some (jb_v l5), some (jb_v l6), some (jb_v l7)] [] Q))) ∧ (¬ (l5 = 0) → jb_w d 81 0 [some (.ref 79), none] [] σ (jb_k (d + 1) 109 98 [some (.ref 2), some (jb_v l1), some (jb_v l2), some (jb_v l3), some (jb_v l4), some (jb_v l5), some (jb_v l6), some (jb_v l7)] [] Q)))) :
    jb_w (d + 1) 109 82 [some (.ref 2), some (jb_v l1), some (jb_v l2), some (jb_v l3), some (jb_v l4), some (jb_v l5), some (jb_v l6), some (jb_v l7)] [] σ Q := by
  refine jiL6 (p := 84) rfl jM109 jq109_82 ?_
  refine jw_bipush (p := 86) rfl jM109 jq109_84 (by decide) ?_
  refine jw_ic (p := 89) rfl jM109 jq109_86 (jc_ge hl6 (jb_rn rfl)) (fun c1 => ?_) (fun c1 => ?_)
  · have h1 := h.1 c1
    refine jaL0 (p := 138) rfl jM109 jq109_137 ?_
    refine jiL5 (p := 140) rfl jM109 jq109_138 ?_
    refine jw_if (p := 143) rfl jM109 jq109_140 (jc_eq hl5 jb_r0) (fun c2 => ?_) (fun c2 => ?_)
    · have h2 := h1.1 c2
      refine jw_bipush (p := 150) rfl jM109 jq109_148 (by decide) ?_
      refine jw_callV [(jb_v (-4))] jM109 jq109_150 rfl rfl (jo_2 hF) rfl jM140 rfl rfl ?_
      exact h2
    · have h2 := h1.2 c2
      refine jiL4 (p := 145) rfl jM109 jq109_143 ?_
      refine jw_goto jM109 jq109_145 ?_
      refine jw_callV [(jb_v l4)] jM109 jq109_150 rfl rfl (jo_2 hF) rfl jM140 rfl rfl ?_
      exact h2
  · have h1 := h.2 c1
    refine jiL5 (p := 91) rfl jM109 jq109_89 ?_
    refine jw_if (p := 94) rfl jM109 jq109_91 (jc_eq hl5 jb_r0) (fun c3 => ?_) (fun c3 => ?_)
    · have h3 := h1.1 c3
      refine jaL0 (p := 138) rfl jM109 jq109_137 ?_
      refine jiL5 (p := 140) rfl jM109 jq109_138 ?_
      refine jw_if (p := 143) rfl jM109 jq109_140 (jc_eq hl5 jb_r0) (fun c4 => ?_) (fun c4 => ?_)
      · have h4 := h3.1 c4
        refine jw_bipush (p := 150) rfl jM109 jq109_148 (by decide) ?_
        refine jw_callV [(jb_v (-4))] jM109 jq109_150 rfl rfl (jo_2 hF) rfl jM140 rfl rfl ?_
        exact h4
      · have h4 := h3.2 c4
        refine jiL4 (p := 145) rfl jM109 jq109_143 ?_
        refine jw_goto jM109 jq109_145 ?_
        refine jw_callV [(jb_v l4)] jM109 jq109_150 rfl rfl (jo_2 hF) rfl jM140 rfl rfl ?_
        exact h4
    · have h3 := h1.2 c3
      refine jaL0 (p := 95) rfl jM109 jq109_94 ?_
      refine jw_getP (p := 98) (i := 4) (q := 79) rfl jM109 jq109_95 rfl (jo_2 hF) je_10_4 (jp_2_4 hF) ?_
      refine jw_callV [] jM109 jq109_98 rfl rfl (jo_79 hF) rfl jM81 rfl rfl ?_
      exact h3
theorem jk109_153_2 {d : Nat} {σ : ib_H} {Q : ib_O → Prop} {l1 : Int} {l2 : Int} {l3 : Int} {l4 : Int} {l5 : Int} {l6 : Int} {l7 : Int} {s0 : Int} (hF : jb_F σ) (hl1 : jb_r l1) (hl2 : jb_r l2) (hl3 : jb_r l3) (hl4 : jb_r l4) (hl5 : jb_r l5) (hl6 : jb_r l6) (hl7 : jb_r l7) (hs0 : jb_r s0)
    (h : Q (.inl (some (jb_v s0)), σ)) :
    jb_w d 109 153 [some (.ref 2), some (jb_v l1), some (jb_v l2), some (jb_v l3), some (jb_v l4), some (jb_v l5), some (jb_v l6), some (jb_v l7)] [(jb_v s0)] σ Q := by
  exact jw_iret jM109 jq109_153 (fun z => absurd z (by decide)) h
theorem jk109_101_2 {d : Nat} {σ : ib_H} {Q : ib_O → Prop} {l1 : Int} {l2 : Int} {l3 : Int} {l4 : Int} {l5 : Int} {l6 : Int} {l7 : Int} {s0 : Int} (hF : jb_F σ) (hl1 : jb_r l1) (hl2 : jb_r l2) (hl3 : jb_r l3) (hl4 : jb_r l4) (hl5 : jb_r l5) (hl6 : jb_r l6) (hl7 : jb_r l7) (hs0 : jb_r s0)
    (h : (s0 = 0 → (l5 = 0 → jb_w d 140 0 [some (.ref 2), some (jb_v (-4))] [] σ (jb_k (d + 1) 109 150 [some (.ref 2), some (jb_v l1), some (jb_v l2), some (jb_v l3), some (jb_v l4), some (jb_v l5), some (jb_v l6), some (jb_v l7)] [] Q)) ∧ (¬ (l5 = 0) → jb_w d 140 0 [some (.ref 2), some (jb_v l4)] [] σ (jb_k (d + 1) 109 150 [some (.ref 2), some (jb_v l1), some (jb_v l2), some (jb_v l3), some (jb_v l4), some (jb_v l5), some (jb_v l6), some (jb_v l7)] [] Q))) ∧ (¬ (s0 = 0) → jb_w d 70 0 [some (.ref 79)] [] σ (jb_k (d + 1) 109 108 [some (.ref 2), some (jb_v l1), some (jb_v l2), some (jb_v l3), some (jb_v l4), some (jb_v l5), some (jb_v l6), some (jb_v l7)] [] Q))) :
    jb_w (d + 1) 109 101 [some (.ref 2), some (jb_v l1), some (jb_v l2), some (jb_v l3), some (jb_v l4), some (jb_v l5), some (jb_v l6), some (jb_v l7)] [(jb_v s0)] σ Q := by
  refine jw_if (p := 104) rfl jM109 jq109_101 (jc_eq hs0 jb_r0) (fun c1 => ?_) (fun c1 => ?_)
  · have h1 := h.1 c1
    refine jaL0 (p := 138) rfl jM109 jq109_137 ?_
    refine jiL5 (p := 140) rfl jM109 jq109_138 ?_
    refine jw_if (p := 143) rfl jM109 jq109_140 (jc_eq hl5 jb_r0) (fun c2 => ?_) (fun c2 => ?_)
    · have h2 := h1.1 c2
      refine jw_bipush (p := 150) rfl jM109 jq109_148 (by decide) ?_
      refine jw_callV [(jb_v (-4))] jM109 jq109_150 rfl rfl (jo_2 hF) rfl jM140 rfl rfl ?_
      exact h2
    · have h2 := h1.2 c2
      refine jiL4 (p := 145) rfl jM109 jq109_143 ?_
      refine jw_goto jM109 jq109_145 ?_
      refine jw_callV [(jb_v l4)] jM109 jq109_150 rfl rfl (jo_2 hF) rfl jM140 rfl rfl ?_
      exact h2
  · have h1 := h.2 c1
    refine jaL0 (p := 105) rfl jM109 jq109_104 ?_
    refine jw_getP (p := 108) (i := 4) (q := 79) rfl jM109 jq109_105 rfl (jo_2 hF) je_10_4 (jp_2_4 hF) ?_
    refine jw_callV [] jM109 jq109_108 rfl rfl (jo_79 hF) rfl jM70 rfl rfl ?_
    exact h1
theorem jk109_111_2 {d : Nat} {σ : ib_H} {Q : ib_O → Prop} {l1 : Int} {l2 : Int} {l3 : Int} {l4 : Int} {l5 : Int} {l6 : Int} {l7 : Int} {s0 : Int} (hF : jb_F σ) (hl1 : jb_r l1) (hl2 : jb_r l2) (hl3 : jb_r l3) (hl4 : jb_r l4) (hl5 : jb_r l5) (hl6 : jb_r l6) (hl7 : jb_r l7) (hs0 : jb_r s0)
    (h : jb_w d 82 0 [some (.ref 79)] [] σ (jb_k (d + 1) 109 123 [some (.ref 2), some (jb_v l1), some (jb_v l2), some (jb_v l3), some (jb_v l4), some (jb_v l5), some (jb_v l6), some (jb_v s0)] [(jb_v s0), (.ref 79)] Q)) :
    jb_w (d + 1) 109 111 [some (.ref 2), some (jb_v l1), some (jb_v l2), some (jb_v l3), some (jb_v l4), some (jb_v l5), some (jb_v l6), some (jb_v l7)] [(jb_v s0)] σ Q := by
  refine jiS7 (p := 113) rfl jM109 jq109_111 ?_
  refine jaL0 (p := 114) rfl jM109 jq109_113 ?_
  refine jw_getP (p := 117) (i := 4) (q := 79) rfl jM109 jq109_114 rfl (jo_2 hF) je_10_4 (jp_2_4 hF) ?_
  refine jiL7 (p := 119) rfl jM109 jq109_117 ?_
  refine jaL0 (p := 120) rfl jM109 jq109_119 ?_
  refine jw_getP (p := 123) (i := 4) (q := 79) rfl jM109 jq109_120 rfl (jo_2 hF) je_10_4 (jp_2_4 hF) ?_
  refine jw_callV [] jM109 jq109_123 rfl rfl (jo_79 hF) rfl jM82 rfl rfl ?_
  exact h
-- 110 PageLoom.read(II)I
theorem jk110_0 {d : Nat} {σ : ib_H} {Q : ib_O → Prop} {l1 : Int} {l2 : Int} (hF : jb_F σ) (hl1 : jb_r l1) (hl2 : jb_r l2)
    (h : jb_w d 134 0 [some (jb_v l1)] [] σ (jb_k (d + 1) 110 1 [some (.ref 2), some (jb_v l1), some (jb_v l2), none] [] Q)) :
    jb_w (d + 1) 110 0 [some (.ref 2), some (jb_v l1), some (jb_v l2), none] [] σ Q := by
  refine jiL1 (p := 1) rfl jM110 jq110_0 ?_
  refine jw_callS [(jb_v l1)] jM110 jq110_1 rfl rfl rfl jM134 rfl rfl ?_
  exact h
theorem jk110_4 {d : Nat} {σ : ib_H} {Q : ib_O → Prop} {l1 : Int} {l2 : Int} (hF : jb_F σ) (hl1 : jb_r l1) (hl2 : jb_r l2)
    (h : jb_w d 135 0 [some (jb_v l2)] [] σ (jb_k (d + 1) 110 5 [some (.ref 2), some (jb_v l1), some (jb_v l2), none] [] Q)) :
    jb_w (d + 1) 110 4 [some (.ref 2), some (jb_v l1), some (jb_v l2), none] [] σ Q := by
  refine jiL2 (p := 5) rfl jM110 jq110_4 ?_
  refine jw_callS [(jb_v l2)] jM110 jq110_5 rfl rfl rfl jM135 rfl rfl ?_
  exact h
theorem jk110_8 {d : Nat} {σ : ib_H} {Q : ib_O → Prop} {l1 : Int} {l2 : Int} (hF : jb_F σ) (hl1 : jb_r l1) (hl2 : jb_r l2)
    (h : jb_w d 138 0 [some (.ref 2), some (jb_v l1)] [] σ (jb_k (d + 1) 110 10 [some (.ref 2), some (jb_v l1), some (jb_v l2), none] [] Q)) :
    jb_w (d + 1) 110 8 [some (.ref 2), some (jb_v l1), some (jb_v l2), none] [] σ Q := by
  refine jaL0 (p := 9) rfl jM110 jq110_8 ?_
  refine jiL1 (p := 10) rfl jM110 jq110_9 ?_
  refine jw_callV [(jb_v l1)] jM110 jq110_10 rfl rfl (jo_2 hF) rfl jM138 rfl rfl ?_
  exact h
theorem jk110_13 {d : Nat} {σ : ib_H} {Q : ib_O → Prop} {l1 : Int} {l2 : Int} (hF : jb_F σ) (hl1 : jb_r l1) (hl2 : jb_r l2)
    (h : jb_w d 142 0 [some (.ref 2), some (jb_v l1), some (jb_v l2), none, none, none] [] σ (jb_k (d + 1) 110 16 [some (.ref 2), some (jb_v l1), some (jb_v l2), none] [] Q)) :
    jb_w (d + 1) 110 13 [some (.ref 2), some (jb_v l1), some (jb_v l2), none] [] σ Q := by
  refine jaL0 (p := 14) rfl jM110 jq110_13 ?_
  refine jiL1 (p := 15) rfl jM110 jq110_14 ?_
  refine jiL2 (p := 16) rfl jM110 jq110_15 ?_
  refine jw_callV [(jb_v l1), (jb_v l2)] jM110 jq110_16 rfl rfl (jo_2 hF) rfl jM142 rfl rfl ?_
  exact h
theorem jk110_19 {d : Nat} {σ : ib_H} {Q : ib_O → Prop} {l1 : Int} {l2 : Int} {s0 : Int} (hF : jb_F σ) (hl1 : jb_r l1) (hl2 : jb_r l2) (hs0 : jb_r s0)
    (h : (¬ s0 = 0 → jb_w d 140 0 [some (.ref 2), some (jb_v s0)] [] σ (jb_k (d + 1) 110 51 [some (.ref 2), some (jb_v l1), some (jb_v l2), some (jb_v s0)] [] Q)) ∧ (¬ (¬ s0 = 0) → jb_w d 71 0 [some (.ref 79), some (jb_v l2), none, none, none] [] σ (jb_k (d + 1) 110 29 [some (.ref 2), some (jb_v l1), some (jb_v l2), some (jb_v s0)] [] Q))) :
    jb_w (d + 1) 110 19 [some (.ref 2), some (jb_v l1), some (jb_v l2), none] [(jb_v s0)] σ Q := by
  refine jiS3 (p := 20) rfl jM110 jq110_19 ?_
  refine jiL3 (p := 21) rfl jM110 jq110_20 ?_
  refine jw_if (p := 24) rfl jM110 jq110_21 (jc_ne hs0 jb_r0) (fun c1 => ?_) (fun c1 => ?_)
  · have h1 := h.1 c1
    refine jaL0 (p := 50) rfl jM110 jq110_49 ?_
    refine jiL3 (p := 51) rfl jM110 jq110_50 ?_
    refine jw_callV [(jb_v s0)] jM110 jq110_51 rfl rfl (jo_2 hF) rfl jM140 rfl rfl ?_
    exact h1
  · have h1 := h.2 c1
    refine jaL0 (p := 25) rfl jM110 jq110_24 ?_
    refine jw_getP (p := 28) (i := 4) (q := 79) rfl jM110 jq110_25 rfl (jo_2 hF) je_10_4 (jp_2_4 hF) ?_
    refine jiL2 (p := 29) rfl jM110 jq110_28 ?_
    refine jw_callV [(jb_v l2)] jM110 jq110_29 rfl rfl (jo_79 hF) rfl jM71 rfl rfl ?_
    exact h1
theorem jk110_54 {d : Nat} {σ : ib_H} {Q : ib_O → Prop} {l1 : Int} {l2 : Int} {l3 : Int} {s0 : Int} (hF : jb_F σ) (hl1 : jb_r l1) (hl2 : jb_r l2) (hl3 : jb_r l3) (hs0 : jb_r s0)
    (h : Q (.inl (some (jb_v s0)), σ)) :
    jb_w d 110 54 [some (.ref 2), some (jb_v l1), some (jb_v l2), some (jb_v l3)] [(jb_v s0)] σ Q := by
  exact jw_iret jM110 jq110_54 (fun z => absurd z (by decide)) h
theorem jk110_32 {d : Nat} {σ : ib_H} {Q : ib_O → Prop} {l1 : Int} {l2 : Int} {l3 : Int} {s0 : Int} (hF : jb_F σ) (hl1 : jb_r l1) (hl2 : jb_r l2) (hl3 : jb_r l3) (hs0 : jb_r s0)
    (h : (s0 = 0 → jb_w d 140 0 [some (.ref 2), some (jb_v (-4))] [] σ (jb_k (d + 1) 110 51 [some (.ref 2), some (jb_v l1), some (jb_v l2), some (jb_v (-4))] [] Q)) ∧ (¬ (s0 = 0) → jb_w d 72 0 [some (.ref 79), some (jb_v l2), none] [] σ (jb_k (d + 1) 110 40 [some (.ref 2), some (jb_v l1), some (jb_v l2), some (jb_v l3)] [] Q))) :
    jb_w (d + 1) 110 32 [some (.ref 2), some (jb_v l1), some (jb_v l2), some (jb_v l3)] [(jb_v s0)] σ Q := by
  refine jw_if (p := 35) rfl jM110 jq110_32 (jc_eq hs0 jb_r0) (fun c1 => ?_) (fun c1 => ?_)
  · have h1 := h.1 c1
    refine jw_bipush (p := 48) rfl jM110 jq110_46 (by decide) ?_
    refine jiS3 (p := 49) rfl jM110 jq110_48 ?_
    refine jaL0 (p := 50) rfl jM110 jq110_49 ?_
    refine jiL3 (p := 51) rfl jM110 jq110_50 ?_
    refine jw_callV [(jb_v (-4))] jM110 jq110_51 rfl rfl (jo_2 hF) rfl jM140 rfl rfl ?_
    exact h1
  · have h1 := h.2 c1
    refine jaL0 (p := 36) rfl jM110 jq110_35 ?_
    refine jw_getP (p := 39) (i := 4) (q := 79) rfl jM110 jq110_36 rfl (jo_2 hF) je_10_4 (jp_2_4 hF) ?_
    refine jiL2 (p := 40) rfl jM110 jq110_39 ?_
    refine jw_callV [(jb_v l2)] jM110 jq110_40 rfl rfl (jo_79 hF) rfl jM72 rfl rfl ?_
    exact h1
theorem jk110_43 {d : Nat} {σ : ib_H} {Q : ib_O → Prop} {l1 : Int} {l2 : Int} {l3 : Int} {s0 : Int} (hF : jb_F σ) (hl1 : jb_r l1) (hl2 : jb_r l2) (hl3 : jb_r l3) (hs0 : jb_r s0)
    (h : jb_w d 140 0 [some (.ref 2), some (jb_v s0)] [] σ (jb_k (d + 1) 110 51 [some (.ref 2), some (jb_v l1), some (jb_v l2), some (jb_v s0)] [] Q)) :
    jb_w (d + 1) 110 43 [some (.ref 2), some (jb_v l1), some (jb_v l2), some (jb_v l3)] [(jb_v s0)] σ Q := by
  refine jw_goto jM110 jq110_43 ?_
  refine jiS3 (p := 49) rfl jM110 jq110_48 ?_
  refine jaL0 (p := 50) rfl jM110 jq110_49 ?_
  refine jiL3 (p := 51) rfl jM110 jq110_50 ?_
  refine jw_callV [(jb_v s0)] jM110 jq110_51 rfl rfl (jo_2 hF) rfl jM140 rfl rfl ?_
  exact h
-- 111 PageLoom.place(I)I
theorem jk111_0 {d : Nat} {σ : ib_H} {Q : ib_O → Prop} {l1 : Int} (hF : jb_F σ) (hl1 : jb_r l1)
    (h : jb_w d 134 0 [some (jb_v l1)] [] σ (jb_k (d + 1) 111 1 [some (.ref 2), some (jb_v l1)] [] Q)) :
    jb_w (d + 1) 111 0 [some (.ref 2), some (jb_v l1)] [] σ Q := by
  refine jiL1 (p := 1) rfl jM111 jq111_0 ?_
  refine jw_callS [(jb_v l1)] jM111 jq111_1 rfl rfl rfl jM134 rfl rfl ?_
  exact h
theorem jk111_4 {d : Nat} {σ : ib_H} {Q : ib_O → Prop} {l1 : Int} (hF : jb_F σ) (hl1 : jb_r l1)
    (h : jb_w d 138 0 [some (.ref 2), some (jb_v l1)] [] σ (jb_k (d + 1) 111 6 [some (.ref 2), some (jb_v l1)] [] Q)) :
    jb_w (d + 1) 111 4 [some (.ref 2), some (jb_v l1)] [] σ Q := by
  refine jaL0 (p := 5) rfl jM111 jq111_4 ?_
  refine jiL1 (p := 6) rfl jM111 jq111_5 ?_
  refine jw_callV [(jb_v l1)] jM111 jq111_6 rfl rfl (jo_2 hF) rfl jM138 rfl rfl ?_
  exact h
theorem jk111_9 {d : Nat} {σ : ib_H} {Q : ib_O → Prop} {l1 : Int} (hF : jb_F σ) (hl1 : jb_r l1)
    (h : (0 ≤ l1 ∧ l1 < 4) ∧ (Q (.inl (some (jb_v (jb_i (jb_si σ 61 l1 (-1)) 59 l1))), jb_si σ 61 l1 (-1)))) :
    jb_w d 111 9 [some (.ref 2), some (jb_v l1)] [] σ Q := by
  refine jaL0 (p := 10) rfl jM111 jq111_9 ?_
  refine jw_getP (p := 13) (i := 1) (q := 57) rfl jM111 jq111_10 rfl (jo_2 hF) je_10_1 (jp_2_1 hF) ?_
  refine jw_getP (p := 16) (i := 3) (q := 61) rfl jM111 jq111_13 rfl (jo_57 hF) je_6_3 (jp_57_3 hF) ?_
  refine jiL1 (p := 17) rfl jM111 jq111_16 ?_
  refine jw_iconst (p := 18) rfl jM111 jq111_17 ?_
  obtain ⟨c1, h1⟩ := h
  refine jw_iast (p := 19) rfl jM111 jq111_18 (ja_61 hF) c1.1 c1.2 ?_
  refine jaL0 (p := 20) rfl jM111 jq111_19 ?_
  refine jw_getP (p := 23) (i := 1) (q := 57) rfl jM111 jq111_20 rfl (jo_2 hF) je_10_1 (jp_2_1 hF) ?_
  refine jw_getP (p := 26) (i := 1) (q := 59) rfl jM111 jq111_23 rfl (jo_57 hF) je_6_1 (jp_57_1 hF) ?_
  refine jiL1 (p := 27) rfl jM111 jq111_26 ?_
  refine jw_iald (p := 28) rfl jM111 jq111_27 (ja_59 hF) c1.1 c1.2 ?_
  exact jw_iret jM111 jq111_28 (fun z => absurd z (by decide)) h1
-- 112 PageLoom.back(II)I
theorem jk112_0 {d : Nat} {σ : ib_H} {Q : ib_O → Prop} {l1 : Int} {l2 : Int} (hF : jb_F σ) (hl1 : jb_r l1) (hl2 : jb_r l2)
    (h : jb_w d 134 0 [some (jb_v l1)] [] σ (jb_k (d + 1) 112 1 [some (.ref 2), some (jb_v l1), some (jb_v l2)] [] Q)) :
    jb_w (d + 1) 112 0 [some (.ref 2), some (jb_v l1), some (jb_v l2)] [] σ Q := by
  refine jiL1 (p := 1) rfl jM112 jq112_0 ?_
  refine jw_callS [(jb_v l1)] jM112 jq112_1 rfl rfl rfl jM134 rfl rfl ?_
  exact h
theorem jk112_4 {d : Nat} {σ : ib_H} {Q : ib_O → Prop} {l1 : Int} {l2 : Int} (hF : jb_F σ) (hl1 : jb_r l1) (hl2 : jb_r l2)
    (h : (l2 < 0 → Q (.inr 0, ib_cost σ 1 6)) ∧ (¬ (l2 < 0) → (l2 ≤ jb_i σ 63 4 → jb_w (d + 5) 138 0 [some (.ref 2), some (jb_v l1)] [] σ (jb_k (d + 6) 112 31 [some (.ref 2), some (jb_v l1), some (jb_v l2)] [] Q)) ∧ (¬ (l2 ≤ jb_i σ 63 4) → Q (.inr 0, ib_cost σ 1 6)))) :
    jb_w (d + 6) 112 4 [some (.ref 2), some (jb_v l1), some (jb_v l2)] [] σ Q := by
  refine jiL2 (p := 5) rfl jM112 jq112_4 ?_
  refine jw_if (p := 8) rfl jM112 jq112_5 (jc_lt hl2 jb_r0) (fun c1 => ?_) (fun c1 => ?_)
  · have h1 := h.1 c1
    exact jb_throw (k := 0) jM112 jq112_19 rfl (Nat.le_add_left_of_le (by decide)) h1
  · have h1 := h.2 c1
    refine jiL2 (p := 9) rfl jM112 jq112_8 ?_
    refine jaL0 (p := 10) rfl jM112 jq112_9 ?_
    refine jw_getP (p := 13) (i := 2) (q := 63) rfl jM112 jq112_10 rfl (jo_2 hF) je_10_2 (jp_2_2 hF) ?_
    refine jw_getI (p := 16) (i := 4) rfl jM112 jq112_13 rfl (jo_63 hF) jn_2_4 ?_
    refine jw_ic (p := 19) rfl jM112 jq112_16 (jc_le hl2 (jb_r_i _ _ _)) (fun c2 => ?_) (fun c2 => ?_)
    · have h2 := h1.1 c2
      refine jaL0 (p := 30) rfl jM112 jq112_29 ?_
      refine jiL1 (p := 31) rfl jM112 jq112_30 ?_
      refine jw_callV [(jb_v l1)] jM112 jq112_31 rfl rfl (jo_2 hF) rfl jM138 rfl rfl ?_
      exact h2
    · have h2 := h1.2 c2
      exact jb_throw (k := 0) jM112 jq112_19 rfl (Nat.le_add_left_of_le (by decide)) h2
theorem jk112_34 {d : Nat} {σ : ib_H} {Q : ib_O → Prop} {l1 : Int} {l2 : Int} (hF : jb_F σ) (hl1 : jb_r l1) (hl2 : jb_r l2)
    (h : (0 ≤ l1 ∧ l1 < 4) ∧ (jb_w d 90 0 [some (.ref 81), some (jb_v l1), none] [] (jb_si σ 61 l1 (-1)) (jb_k (d + 1) 112 49 [some (.ref 2), some (jb_v l1), some (jb_v l2)] [] Q))) :
    jb_w (d + 1) 112 34 [some (.ref 2), some (jb_v l1), some (jb_v l2)] [] σ Q := by
  refine jaL0 (p := 35) rfl jM112 jq112_34 ?_
  refine jw_getP (p := 38) (i := 1) (q := 57) rfl jM112 jq112_35 rfl (jo_2 hF) je_10_1 (jp_2_1 hF) ?_
  refine jw_getP (p := 41) (i := 3) (q := 61) rfl jM112 jq112_38 rfl (jo_57 hF) je_6_3 (jp_57_3 hF) ?_
  refine jiL1 (p := 42) rfl jM112 jq112_41 ?_
  refine jw_iconst (p := 43) rfl jM112 jq112_42 ?_
  obtain ⟨c1, h1⟩ := h
  refine jw_iast (p := 44) rfl jM112 jq112_43 (ja_61 hF) c1.1 c1.2 ?_
  refine jaL0 (p := 45) rfl jM112 jq112_44 ?_
  refine jw_getP (p := 48) (i := 5) (q := 81) rfl jM112 jq112_45 rfl (jo_2 hF) je_10_5 (jp_2_5 hF) ?_
  refine jiL1 (p := 49) rfl jM112 jq112_48 ?_
  refine jw_callV [(jb_v l1)] jM112 jq112_49 rfl rfl (jo_81 hF) rfl jM90 rfl rfl ?_
  exact h1
theorem jk112_52 {d : Nat} {σ : ib_H} {Q : ib_O → Prop} {l1 : Int} {l2 : Int} (hF : jb_F σ) (hl1 : jb_r l1) (hl2 : jb_r l2)
    (h : jb_w d 92 0 [some (.ref 81), some (jb_v l2), some (jb_v 0), none, none, none, none, none, none] [] σ (jb_k (d + 1) 112 59 [some (.ref 2), some (jb_v l1), some (jb_v l2)] [(.ref 2)] Q)) :
    jb_w (d + 1) 112 52 [some (.ref 2), some (jb_v l1), some (jb_v l2)] [] σ Q := by
  refine jaL0 (p := 53) rfl jM112 jq112_52 ?_
  refine jaL0 (p := 54) rfl jM112 jq112_53 ?_
  refine jw_getP (p := 57) (i := 5) (q := 81) rfl jM112 jq112_54 rfl (jo_2 hF) je_10_5 (jp_2_5 hF) ?_
  refine jiL2 (p := 58) rfl jM112 jq112_57 ?_
  refine jw_iconst (p := 59) rfl jM112 jq112_58 ?_
  refine jw_callV [(jb_v l2), (jb_v 0)] jM112 jq112_59 rfl rfl (jo_81 hF) rfl jM92 rfl rfl ?_
  exact h
theorem jk112_62 {d : Nat} {σ : ib_H} {Q : ib_O → Prop} {l1 : Int} {l2 : Int} {s1 : Int} (hF : jb_F σ) (hl1 : jb_r l1) (hl2 : jb_r l2) (hs1 : jb_r s1)
    (h : (s1 = 0 → jb_w d 140 0 [some (.ref 2), some (jb_v (-4))] [] σ (jb_k (d + 1) 112 77 [some (.ref 2), some (jb_v l1), some (jb_v l2)] [] Q)) ∧ (¬ (s1 = 0) → jb_w d 140 0 [some (.ref 2), some (jb_v (jb_i σ 81 4))] [] σ (jb_k (d + 1) 112 77 [some (.ref 2), some (jb_v l1), some (jb_v l2)] [] Q))) :
    jb_w (d + 1) 112 62 [some (.ref 2), some (jb_v l1), some (jb_v l2)] [(jb_v s1), (.ref 2)] σ Q := by
  refine jw_if (p := 65) rfl jM112 jq112_62 (jc_eq hs1 jb_r0) (fun c1 => ?_) (fun c1 => ?_)
  · have h1 := h.1 c1
    refine jw_bipush (p := 77) rfl jM112 jq112_75 (by decide) ?_
    refine jw_callV [(jb_v (-4))] jM112 jq112_77 rfl rfl (jo_2 hF) rfl jM140 rfl rfl ?_
    exact h1
  · have h1 := h.2 c1
    refine jaL0 (p := 66) rfl jM112 jq112_65 ?_
    refine jw_getP (p := 69) (i := 5) (q := 81) rfl jM112 jq112_66 rfl (jo_2 hF) je_10_5 (jp_2_5 hF) ?_
    refine jw_getI (p := 72) (i := 4) rfl jM112 jq112_69 rfl (jo_81 hF) jn_8_4 ?_
    refine jw_goto jM112 jq112_72 ?_
    refine jw_callV [(jb_v (jb_i σ 81 4))] jM112 jq112_77 rfl rfl (jo_2 hF) rfl jM140 rfl rfl ?_
    exact h1
theorem jk112_80 {d : Nat} {σ : ib_H} {Q : ib_O → Prop} {l1 : Int} {l2 : Int} {s0 : Int} (hF : jb_F σ) (hl1 : jb_r l1) (hl2 : jb_r l2) (hs0 : jb_r s0)
    (h : Q (.inl (some (jb_v s0)), σ)) :
    jb_w d 112 80 [some (.ref 2), some (jb_v l1), some (jb_v l2)] [(jb_v s0)] σ Q := by
  exact jw_iret jM112 jq112_80 (fun z => absurd z (by decide)) h
-- 113 PageLoom.commit(I)I
theorem jk113_0 {d : Nat} {σ : ib_H} {Q : ib_O → Prop} {l1 : Int} (hF : jb_F σ) (hl1 : jb_r l1)
    (h : jb_w d 134 0 [some (jb_v l1)] [] σ (jb_k (d + 1) 113 1 [some (.ref 2), some (jb_v l1)] [] Q)) :
    jb_w (d + 1) 113 0 [some (.ref 2), some (jb_v l1)] [] σ Q := by
  refine jiL1 (p := 1) rfl jM113 jq113_0 ?_
  refine jw_callS [(jb_v l1)] jM113 jq113_1 rfl rfl rfl jM134 rfl rfl ?_
  exact h
theorem jk113_4 {d : Nat} {σ : ib_H} {Q : ib_O → Prop} {l1 : Int} (hF : jb_F σ) (hl1 : jb_r l1)
    (h : jb_w d 138 0 [some (.ref 2), some (jb_v l1)] [] σ (jb_k (d + 1) 113 6 [some (.ref 2), some (jb_v l1)] [] Q)) :
    jb_w (d + 1) 113 4 [some (.ref 2), some (jb_v l1)] [] σ Q := by
  refine jaL0 (p := 5) rfl jM113 jq113_4 ?_
  refine jiL1 (p := 6) rfl jM113 jq113_5 ?_
  refine jw_callV [(jb_v l1)] jM113 jq113_6 rfl rfl (jo_2 hF) rfl jM138 rfl rfl ?_
  exact h
theorem jk113_9 {d : Nat} {σ : ib_H} {Q : ib_O → Prop} {l1 : Int} (hF : jb_F σ) (hl1 : jb_r l1)
    (h : jb_w d 20 0 [some (.ref 63), some (jb_v 2), some (jb_v l1), none] [] σ (jb_k (d + 1) 113 15 [some (.ref 2), some (jb_v l1)] [] Q)) :
    jb_w (d + 1) 113 9 [some (.ref 2), some (jb_v l1)] [] σ Q := by
  refine jaL0 (p := 10) rfl jM113 jq113_9 ?_
  refine jw_getP (p := 13) (i := 2) (q := 63) rfl jM113 jq113_10 rfl (jo_2 hF) je_10_2 (jp_2_2 hF) ?_
  refine jw_iconst (p := 14) rfl jM113 jq113_13 ?_
  refine jiL1 (p := 15) rfl jM113 jq113_14 ?_
  refine jw_callV [(jb_v 2), (jb_v l1)] jM113 jq113_15 rfl rfl (jo_63 hF) rfl jM20 rfl rfl ?_
  exact h
theorem jk113_18 {d : Nat} {σ : ib_H} {Q : ib_O → Prop} {l1 : Int} {s0 : Nat} (hF : jb_F σ) (hl1 : jb_r l1) (hs0 : s0 ≠ 0 → jb_rc σ s0)
    (h : (s0 = 0 → jb_w d 140 0 [some (.ref 2), some (jb_v (-4))] [] σ (jb_k (d + 1) 113 41 [some (.ref 2), some (jb_v l1)] [] Q)) ∧ (¬ (s0 = 0) → jb_w d 13 0 [some (.ref 3), some (jb_v (jb_i σ 63 4)), none, none] [] σ (jb_k (d + 1) 113 32 [some (.ref 2), some (jb_v l1)] [] Q))) :
    jb_w (d + 1) 113 18 [some (.ref 2), some (jb_v l1)] [(.ref s0)] σ Q := by
  refine jw_ifnull (p := 21) rfl jM113 jq113_18 (fun c1 => ?_) (fun c1 => ?_)
  · have h1 := h.1 c1
    refine jaL0 (p := 39) rfl jM113 jq113_38 ?_
    refine jw_bipush (p := 41) rfl jM113 jq113_39 (by decide) ?_
    refine jw_callV [(jb_v (-4))] jM113 jq113_41 rfl rfl (jo_2 hF) rfl jM140 rfl rfl ?_
    exact h1
  · have h1 := h.2 c1
    refine jaL0 (p := 22) rfl jM113 jq113_21 ?_
    refine jw_getP (p := 25) (i := 0) (q := 3) rfl jM113 jq113_22 rfl (jo_2 hF) je_10_0 (jp_2_0 hF) ?_
    refine jaL0 (p := 26) rfl jM113 jq113_25 ?_
    refine jw_getP (p := 29) (i := 2) (q := 63) rfl jM113 jq113_26 rfl (jo_2 hF) je_10_2 (jp_2_2 hF) ?_
    refine jw_getI (p := 32) (i := 4) rfl jM113 jq113_29 rfl (jo_63 hF) jn_2_4 ?_
    refine jw_callV [(jb_v (jb_i σ 63 4))] jM113 jq113_32 rfl rfl (jo_3 hF) rfl jM13 rfl rfl ?_
    exact h1
theorem jk113_44 {d : Nat} {σ : ib_H} {Q : ib_O → Prop} {l1 : Int} {s0 : Int} (hF : jb_F σ) (hl1 : jb_r l1) (hs0 : jb_r s0)
    (h : Q (.inl (some (jb_v s0)), σ)) :
    jb_w d 113 44 [some (.ref 2), some (jb_v l1)] [(jb_v s0)] σ Q := by
  exact jw_iret jM113 jq113_44 (fun z => absurd z (by decide)) h
theorem jk113_35 {d : Nat} {σ : ib_H} {Q : ib_O → Prop} {l1 : Int} {s0 : Int} (hF : jb_F σ) (hl1 : jb_r l1) (hs0 : jb_r s0)
    (h : (¬ s0 = 0 → jb_w d 63 0 [some (.ref 57), some (jb_v l1), none] [] σ (jb_k (d + 1) 113 50 [some (.ref 2), some (jb_v l1)] [] Q)) ∧ (¬ (¬ s0 = 0) → jb_w d 140 0 [some (.ref 2), some (jb_v (-4))] [] σ (jb_k (d + 1) 113 41 [some (.ref 2), some (jb_v l1)] [] Q))) :
    jb_w (d + 1) 113 35 [some (.ref 2), some (jb_v l1)] [(jb_v s0)] σ Q := by
  refine jw_if (p := 38) rfl jM113 jq113_35 (jc_ne hs0 jb_r0) (fun c1 => ?_) (fun c1 => ?_)
  · have h1 := h.1 c1
    refine jaL0 (p := 46) rfl jM113 jq113_45 ?_
    refine jw_getP (p := 49) (i := 1) (q := 57) rfl jM113 jq113_46 rfl (jo_2 hF) je_10_1 (jp_2_1 hF) ?_
    refine jiL1 (p := 50) rfl jM113 jq113_49 ?_
    refine jw_callV [(jb_v l1)] jM113 jq113_50 rfl rfl (jo_57 hF) rfl jM63 rfl rfl ?_
    exact h1
  · have h1 := h.2 c1
    refine jaL0 (p := 39) rfl jM113 jq113_38 ?_
    refine jw_bipush (p := 41) rfl jM113 jq113_39 (by decide) ?_
    refine jw_callV [(jb_v (-4))] jM113 jq113_41 rfl rfl (jo_2 hF) rfl jM140 rfl rfl ?_
    exact h1
theorem jk113_53 {d : Nat} {σ : ib_H} {Q : ib_O → Prop} {l1 : Int} (hF : jb_F σ) (hl1 : jb_r l1)
    (h : Q (.inl (some (jb_v (jb_i σ 63 4))), σ)) :
    jb_w d 113 53 [some (.ref 2), some (jb_v l1)] [] σ Q := by
  refine jaL0 (p := 54) rfl jM113 jq113_53 ?_
  refine jw_getP (p := 57) (i := 2) (q := 63) rfl jM113 jq113_54 rfl (jo_2 hF) je_10_2 (jp_2_2 hF) ?_
  refine jw_getI (p := 60) (i := 4) rfl jM113 jq113_57 rfl (jo_63 hF) jn_2_4 ?_
  exact jw_iret jM113 jq113_60 (fun z => absurd z (by decide)) h
-- 114 PageLoom.undo(I)I
theorem jk114_0 {d : Nat} {σ : ib_H} {Q : ib_O → Prop} {l1 : Int} (hF : jb_F σ) (hl1 : jb_r l1)
    (h : jb_w d 134 0 [some (jb_v l1)] [] σ (jb_k (d + 1) 114 1 [some (.ref 2), some (jb_v l1)] [] Q)) :
    jb_w (d + 1) 114 0 [some (.ref 2), some (jb_v l1)] [] σ Q := by
  refine jiL1 (p := 1) rfl jM114 jq114_0 ?_
  refine jw_callS [(jb_v l1)] jM114 jq114_1 rfl rfl rfl jM134 rfl rfl ?_
  exact h
theorem jk114_4 {d : Nat} {σ : ib_H} {Q : ib_O → Prop} {l1 : Int} (hF : jb_F σ) (hl1 : jb_r l1)
    (h : jb_w d 138 0 [some (.ref 2), some (jb_v l1)] [] σ (jb_k (d + 1) 114 6 [some (.ref 2), some (jb_v l1)] [] Q)) :
    jb_w (d + 1) 114 4 [some (.ref 2), some (jb_v l1)] [] σ Q := by
  refine jaL0 (p := 5) rfl jM114 jq114_4 ?_
  refine jiL1 (p := 6) rfl jM114 jq114_5 ?_
  refine jw_callV [(jb_v l1)] jM114 jq114_6 rfl rfl (jo_2 hF) rfl jM138 rfl rfl ?_
  exact h
theorem jk114_9 {d : Nat} {σ : ib_H} {Q : ib_O → Prop} {l1 : Int} (hF : jb_F σ) (hl1 : jb_r l1)
    (h : jb_w d 90 0 [some (.ref 81), some (jb_v l1), none] [] σ (jb_k (d + 1) 114 14 [some (.ref 2), some (jb_v l1)] [] Q)) :
    jb_w (d + 1) 114 9 [some (.ref 2), some (jb_v l1)] [] σ Q := by
  refine jaL0 (p := 10) rfl jM114 jq114_9 ?_
  refine jw_getP (p := 13) (i := 5) (q := 81) rfl jM114 jq114_10 rfl (jo_2 hF) je_10_5 (jp_2_5 hF) ?_
  refine jiL1 (p := 14) rfl jM114 jq114_13 ?_
  refine jw_callV [(jb_v l1)] jM114 jq114_14 rfl rfl (jo_81 hF) rfl jM90 rfl rfl ?_
  exact h
theorem jk114_17 {d : Nat} {σ : ib_H} {Q : ib_O → Prop} {l1 : Int} (hF : jb_F σ) (hl1 : jb_r l1)
    (h : jb_w d 92 0 [some (.ref 81), some (jb_v 0), some (jb_v 1), none, none, none, none, none, none] [] σ (jb_k (d + 1) 114 24 [some (.ref 2), some (jb_v l1)] [(.ref 2)] Q)) :
    jb_w (d + 1) 114 17 [some (.ref 2), some (jb_v l1)] [] σ Q := by
  refine jaL0 (p := 18) rfl jM114 jq114_17 ?_
  refine jaL0 (p := 19) rfl jM114 jq114_18 ?_
  refine jw_getP (p := 22) (i := 5) (q := 81) rfl jM114 jq114_19 rfl (jo_2 hF) je_10_5 (jp_2_5 hF) ?_
  refine jw_iconst (p := 23) rfl jM114 jq114_22 ?_
  refine jw_iconst (p := 24) rfl jM114 jq114_23 ?_
  refine jw_callV [(jb_v 0), (jb_v 1)] jM114 jq114_24 rfl rfl (jo_81 hF) rfl jM92 rfl rfl ?_
  exact h
theorem jk114_27 {d : Nat} {σ : ib_H} {Q : ib_O → Prop} {l1 : Int} {s1 : Int} (hF : jb_F σ) (hl1 : jb_r l1) (hs1 : jb_r s1)
    (h : (s1 = 0 → jb_w d 140 0 [some (.ref 2), some (jb_v (-4))] [] σ (jb_k (d + 1) 114 42 [some (.ref 2), some (jb_v l1)] [] Q)) ∧ (¬ (s1 = 0) → jb_w d 140 0 [some (.ref 2), some (jb_v (jb_i σ 81 4))] [] σ (jb_k (d + 1) 114 42 [some (.ref 2), some (jb_v l1)] [] Q))) :
    jb_w (d + 1) 114 27 [some (.ref 2), some (jb_v l1)] [(jb_v s1), (.ref 2)] σ Q := by
  refine jw_if (p := 30) rfl jM114 jq114_27 (jc_eq hs1 jb_r0) (fun c1 => ?_) (fun c1 => ?_)
  · have h1 := h.1 c1
    refine jw_bipush (p := 42) rfl jM114 jq114_40 (by decide) ?_
    refine jw_callV [(jb_v (-4))] jM114 jq114_42 rfl rfl (jo_2 hF) rfl jM140 rfl rfl ?_
    exact h1
  · have h1 := h.2 c1
    refine jaL0 (p := 31) rfl jM114 jq114_30 ?_
    refine jw_getP (p := 34) (i := 5) (q := 81) rfl jM114 jq114_31 rfl (jo_2 hF) je_10_5 (jp_2_5 hF) ?_
    refine jw_getI (p := 37) (i := 4) rfl jM114 jq114_34 rfl (jo_81 hF) jn_8_4 ?_
    refine jw_goto jM114 jq114_37 ?_
    refine jw_callV [(jb_v (jb_i σ 81 4))] jM114 jq114_42 rfl rfl (jo_2 hF) rfl jM140 rfl rfl ?_
    exact h1
theorem jk114_45 {d : Nat} {σ : ib_H} {Q : ib_O → Prop} {l1 : Int} {s0 : Int} (hF : jb_F σ) (hl1 : jb_r l1) (hs0 : jb_r s0)
    (h : Q (.inl (some (jb_v s0)), σ)) :
    jb_w d 114 45 [some (.ref 2), some (jb_v l1)] [(jb_v s0)] σ Q := by
  exact jw_iret jM114 jq114_45 (fun z => absurd z (by decide)) h
-- 115 PageLoom.mark()I
theorem jk115_0 {d : Nat} {σ : ib_H} {Q : ib_O → Prop}  (hF : jb_F σ) 
    (h : jb_w d 137 0 [some (.ref 2)] [] σ (jb_k (d + 1) 115 1 [some (.ref 2), none] [] Q)) :
    jb_w (d + 1) 115 0 [some (.ref 2), none] [] σ Q := by
  refine jaL0 (p := 1) rfl jM115 jq115_0 ?_
  refine jw_callV [] jM115 jq115_1 rfl rfl (jo_2 hF) rfl jM137 rfl rfl ?_
  exact h
theorem jk115_4 {d : Nat} {σ : ib_H} {Q : ib_O → Prop}  (hF : jb_F σ) 
    (h : jb_w d 139 0 [some (.ref 2)] [] σ (jb_k (d + 1) 115 5 [some (.ref 2), none] [] Q)) :
    jb_w (d + 1) 115 4 [some (.ref 2), none] [] σ Q := by
  refine jaL0 (p := 5) rfl jM115 jq115_4 ?_
  refine jw_callV [] jM115 jq115_5 rfl rfl (jo_2 hF) rfl jM139 rfl rfl ?_
  exact h
theorem jk115_8 {d : Nat} {σ : ib_H} {Q : ib_O → Prop}  (hF : jb_F σ) 
    (h : jb_w d 20 0 [some (.ref 63), some (jb_v 4), some (jb_v (-1)), none] [] σ (jb_k (d + 1) 115 14 [some (.ref 2), none] [] Q)) :
    jb_w (d + 1) 115 8 [some (.ref 2), none] [] σ Q := by
  refine jaL0 (p := 9) rfl jM115 jq115_8 ?_
  refine jw_getP (p := 12) (i := 2) (q := 63) rfl jM115 jq115_9 rfl (jo_2 hF) je_10_2 (jp_2_2 hF) ?_
  refine jw_iconst (p := 13) rfl jM115 jq115_12 ?_
  refine jw_iconst (p := 14) rfl jM115 jq115_13 ?_
  refine jw_callV [(jb_v 4), (jb_v (-1))] jM115 jq115_14 rfl rfl (jo_63 hF) rfl jM20 rfl rfl ?_
  exact h
theorem jk115_17 {d : Nat} {σ : ib_H} {Q : ib_O → Prop} {s0 : Nat} (hF : jb_F σ) (hs0 : s0 ≠ 0 → jb_rc σ s0)
    (h : (¬ s0 = 0 → jb_w d 67 0 [some (.ref 57), some (.ref s0), none] [] σ (jb_k (d + 1) 115 34 [some (.ref 2), some (.ref s0)] [] Q)) ∧ (s0 = 0 → jb_w d 140 0 [some (.ref 2), some (jb_v (-4))] [] σ (jb_k (d + 1) 115 25 [some (.ref 2), some (.ref s0)] [] Q))) :
    jb_w (d + 1) 115 17 [some (.ref 2), none] [(.ref s0)] σ Q := by
  refine jaS1 (p := 18) rfl jM115 jq115_17 ?_
  refine jaL1 (p := 19) rfl jM115 jq115_18 ?_
  refine jw_ifnonnull (p := 22) rfl jM115 jq115_19 (fun c1 => ?_) (fun c1 => ?_)
  · have h1 := h.1 c1
    refine jaL0 (p := 30) rfl jM115 jq115_29 ?_
    refine jw_getP (p := 33) (i := 1) (q := 57) rfl jM115 jq115_30 rfl (jo_2 hF) je_10_1 (jp_2_1 hF) ?_
    refine jaL1 (p := 34) rfl jM115 jq115_33 ?_
    refine jw_callV [(.ref s0)] jM115 jq115_34 rfl rfl (jo_57 hF) rfl jM67 rfl rfl ?_
    exact h1
  · have h1 := h.2 c1
    refine jaL0 (p := 23) rfl jM115 jq115_22 ?_
    refine jw_bipush (p := 25) rfl jM115 jq115_23 (by decide) ?_
    refine jw_callV [(jb_v (-4))] jM115 jq115_25 rfl rfl (jo_2 hF) rfl jM140 rfl rfl ?_
    exact h1
theorem jk115_37 {d : Nat} {σ : ib_H} {Q : ib_O → Prop} {l1 : Nat} (hF : jb_F σ) (hl1 : l1 ≠ 0 → jb_rc σ l1)
    (h : jb_w d 10 0 [some (.ref 66), some (.ref l1), none, none] [] σ (jb_k (d + 1) 115 42 [some (.ref 2), some (.ref l1)] [] Q)) :
    jb_w (d + 1) 115 37 [some (.ref 2), some (.ref l1)] [] σ Q := by
  refine jaL0 (p := 38) rfl jM115 jq115_37 ?_
  refine jw_getP (p := 41) (i := 3) (q := 66) rfl jM115 jq115_38 rfl (jo_2 hF) je_10_3 (jp_2_3 hF) ?_
  refine jaL1 (p := 42) rfl jM115 jq115_41 ?_
  refine jw_callV [(.ref l1)] jM115 jq115_42 rfl rfl (jo_66 hF) rfl jM10 rfl rfl ?_
  exact h
theorem jk115_28 {d : Nat} {σ : ib_H} {Q : ib_O → Prop} {l1 : Nat} {s0 : Int} (hF : jb_F σ) (hl1 : l1 ≠ 0 → jb_rc σ l1) (hs0 : jb_r s0)
    (h : Q (.inl (some (jb_v s0)), σ)) :
    jb_w d 115 28 [some (.ref 2), some (.ref l1)] [(jb_v s0)] σ Q := by
  exact jw_iret jM115 jq115_28 (fun z => absurd z (by decide)) h
theorem jk115_45 {d : Nat} {σ : ib_H} {Q : ib_O → Prop} {l1 : Nat} (hF : jb_F σ) (hl1 : l1 ≠ 0 → jb_rc σ l1)
    (h : jb_w d 13 0 [some (.ref 3), some (jb_v (jb_i σ 63 4)), none, none] [] σ (jb_k (d + 1) 115 57 [some (.ref 2), some (.ref l1)] [(.ref 2)] Q)) :
    jb_w (d + 1) 115 45 [some (.ref 2), some (.ref l1)] [] σ Q := by
  refine jaL0 (p := 46) rfl jM115 jq115_45 ?_
  refine jaL0 (p := 47) rfl jM115 jq115_46 ?_
  refine jw_getP (p := 50) (i := 0) (q := 3) rfl jM115 jq115_47 rfl (jo_2 hF) je_10_0 (jp_2_0 hF) ?_
  refine jaL0 (p := 51) rfl jM115 jq115_50 ?_
  refine jw_getP (p := 54) (i := 2) (q := 63) rfl jM115 jq115_51 rfl (jo_2 hF) je_10_2 (jp_2_2 hF) ?_
  refine jw_getI (p := 57) (i := 4) rfl jM115 jq115_54 rfl (jo_63 hF) jn_2_4 ?_
  refine jw_callV [(jb_v (jb_i σ 63 4))] jM115 jq115_57 rfl rfl (jo_3 hF) rfl jM13 rfl rfl ?_
  exact h
theorem jk115_60 {d : Nat} {σ : ib_H} {Q : ib_O → Prop} {l1 : Nat} {s1 : Int} (hF : jb_F σ) (hl1 : l1 ≠ 0 → jb_rc σ l1) (hs1 : jb_r s1)
    (h : (s1 = 0 → jb_w d 140 0 [some (.ref 2), some (jb_v (-4))] [] σ (jb_k (d + 1) 115 75 [some (.ref 2), some (.ref l1)] [] Q)) ∧ (¬ (s1 = 0) → jb_w d 140 0 [some (.ref 2), some (jb_v (jb_i σ 63 4))] [] σ (jb_k (d + 1) 115 75 [some (.ref 2), some (.ref l1)] [] Q))) :
    jb_w (d + 1) 115 60 [some (.ref 2), some (.ref l1)] [(jb_v s1), (.ref 2)] σ Q := by
  refine jw_if (p := 63) rfl jM115 jq115_60 (jc_eq hs1 jb_r0) (fun c1 => ?_) (fun c1 => ?_)
  · have h1 := h.1 c1
    refine jw_bipush (p := 75) rfl jM115 jq115_73 (by decide) ?_
    refine jw_callV [(jb_v (-4))] jM115 jq115_75 rfl rfl (jo_2 hF) rfl jM140 rfl rfl ?_
    exact h1
  · have h1 := h.2 c1
    refine jaL0 (p := 64) rfl jM115 jq115_63 ?_
    refine jw_getP (p := 67) (i := 2) (q := 63) rfl jM115 jq115_64 rfl (jo_2 hF) je_10_2 (jp_2_2 hF) ?_
    refine jw_getI (p := 70) (i := 4) rfl jM115 jq115_67 rfl (jo_63 hF) jn_2_4 ?_
    refine jw_goto jM115 jq115_70 ?_
    refine jw_callV [(jb_v (jb_i σ 63 4))] jM115 jq115_75 rfl rfl (jo_2 hF) rfl jM140 rfl rfl ?_
    exact h1
theorem jk115_78 {d : Nat} {σ : ib_H} {Q : ib_O → Prop} {l1 : Nat} {s0 : Int} (hF : jb_F σ) (hl1 : l1 ≠ 0 → jb_rc σ l1) (hs0 : jb_r s0)
    (h : Q (.inl (some (jb_v s0)), σ)) :
    jb_w d 115 78 [some (.ref 2), some (.ref l1)] [(jb_v s0)] σ Q := by
  exact jw_iret jM115 jq115_78 (fun z => absurd z (by decide)) h
-- 116 PageLoom.write(I)I
theorem jk116_0 {d : Nat} {σ : ib_H} {Q : ib_O → Prop} {l1 : Int} (hF : jb_F σ) (hl1 : jb_r l1)
    (h : jb_w d 136 0 [some (jb_v l1)] [] σ (jb_k (d + 1) 116 1 [some (.ref 2), some (jb_v l1)] [] Q)) :
    jb_w (d + 1) 116 0 [some (.ref 2), some (jb_v l1)] [] σ Q := by
  refine jiL1 (p := 1) rfl jM116 jq116_0 ?_
  refine jw_callS [(jb_v l1)] jM116 jq116_1 rfl rfl rfl jM136 rfl rfl ?_
  exact h
theorem jk116_4 {d : Nat} {σ : ib_H} {Q : ib_O → Prop} {l1 : Int} (hF : jb_F σ) (hl1 : jb_r l1)
    (h : jb_w d 137 0 [some (.ref 2)] [] σ (jb_k (d + 1) 116 5 [some (.ref 2), some (jb_v l1)] [] Q)) :
    jb_w (d + 1) 116 4 [some (.ref 2), some (jb_v l1)] [] σ Q := by
  refine jaL0 (p := 5) rfl jM116 jq116_4 ?_
  refine jw_callV [] jM116 jq116_5 rfl rfl (jo_2 hF) rfl jM137 rfl rfl ?_
  exact h
theorem jk116_8 {d : Nat} {σ : ib_H} {Q : ib_O → Prop} {l1 : Int} (hF : jb_F σ) (hl1 : jb_r l1)
    (h : jb_w d 8 0 [some (.ref 66), some (jb_v l1), none] [] σ (jb_k (d + 1) 116 13 [some (.ref 2), some (jb_v l1)] [] Q)) :
    jb_w (d + 1) 116 8 [some (.ref 2), some (jb_v l1)] [] σ Q := by
  refine jaL0 (p := 9) rfl jM116 jq116_8 ?_
  refine jw_getP (p := 12) (i := 3) (q := 66) rfl jM116 jq116_9 rfl (jo_2 hF) je_10_3 (jp_2_3 hF) ?_
  refine jiL1 (p := 13) rfl jM116 jq116_12 ?_
  refine jw_callV [(jb_v l1)] jM116 jq116_13 rfl rfl (jo_66 hF) rfl jM8 rfl rfl ?_
  exact h
theorem jk116_16 {d : Nat} {σ : ib_H} {Q : ib_O → Prop} {l1 : Int} {s0 : Int} (hF : jb_F σ) (hl1 : jb_r l1) (hs0 : jb_r s0)
    (h : (¬ s0 = 0 → jb_w d 9 0 [some (.ref 66), some (jb_v l1), none] [] σ (jb_k (d + 1) 116 27 [some (.ref 2), some (jb_v l1)] [(.ref 2)] Q)) ∧ (¬ (¬ s0 = 0) → Q (.inl (some (jb_v 0)), σ))) :
    jb_w (d + 1) 116 16 [some (.ref 2), some (jb_v l1)] [(jb_v s0)] σ Q := by
  refine jw_if (p := 19) rfl jM116 jq116_16 (jc_ne hs0 jb_r0) (fun c1 => ?_) (fun c1 => ?_)
  · have h1 := h.1 c1
    refine jaL0 (p := 22) rfl jM116 jq116_21 ?_
    refine jaL0 (p := 23) rfl jM116 jq116_22 ?_
    refine jw_getP (p := 26) (i := 3) (q := 66) rfl jM116 jq116_23 rfl (jo_2 hF) je_10_3 (jp_2_3 hF) ?_
    refine jiL1 (p := 27) rfl jM116 jq116_26 ?_
    refine jw_callV [(jb_v l1)] jM116 jq116_27 rfl rfl (jo_66 hF) rfl jM9 rfl rfl ?_
    exact h1
  · have h1 := h.2 c1
    refine jw_iconst (p := 20) rfl jM116 jq116_19 ?_
    exact jw_iret jM116 jq116_20 (fun z => absurd z (by decide)) h1
theorem jk116_30 {d : Nat} {σ : ib_H} {Q : ib_O → Prop} {l1 : Int} {s1 : Int} (hF : jb_F σ) (hl1 : jb_r l1) (hs1 : jb_r s1)
    (h : (s1 = 0 → jb_w d 140 0 [some (.ref 2), some (jb_v (-4))] [] σ (jb_k (d + 1) 116 39 [some (.ref 2), some (jb_v l1)] [] Q)) ∧ (¬ (s1 = 0) → jb_w d 140 0 [some (.ref 2), some (jb_v 1)] [] σ (jb_k (d + 1) 116 39 [some (.ref 2), some (jb_v l1)] [] Q))) :
    jb_w (d + 1) 116 30 [some (.ref 2), some (jb_v l1)] [(jb_v s1), (.ref 2)] σ Q := by
  refine jw_if (p := 33) rfl jM116 jq116_30 (jc_eq hs1 jb_r0) (fun c1 => ?_) (fun c1 => ?_)
  · have h1 := h.1 c1
    refine jw_bipush (p := 39) rfl jM116 jq116_37 (by decide) ?_
    refine jw_callV [(jb_v (-4))] jM116 jq116_39 rfl rfl (jo_2 hF) rfl jM140 rfl rfl ?_
    exact h1
  · have h1 := h.2 c1
    refine jw_iconst (p := 34) rfl jM116 jq116_33 ?_
    refine jw_goto jM116 jq116_34 ?_
    refine jw_callV [(jb_v 1)] jM116 jq116_39 rfl rfl (jo_2 hF) rfl jM140 rfl rfl ?_
    exact h1
theorem jk116_42 {d : Nat} {σ : ib_H} {Q : ib_O → Prop} {l1 : Int} {s0 : Int} (hF : jb_F σ) (hl1 : jb_r l1) (hs0 : jb_r s0)
    (h : Q (.inl (some (jb_v s0)), σ)) :
    jb_w d 116 42 [some (.ref 2), some (jb_v l1)] [(jb_v s0)] σ Q := by
  exact jw_iret jM116 jq116_42 (fun z => absurd z (by decide)) h
-- 117 PageLoom.crashAt(I)V
theorem jk117_0 {d : Nat} {σ : ib_H} {Q : ib_O → Prop} {l1 : Int} (hF : jb_F σ) (hl1 : jb_r l1)
    (h : (l1 < 0 → Q (.inr 0, ib_cost σ 1 6)) ∧ (¬ (l1 < 0) → (l1 ≤ 999 → Q (.inl none, jb_si σ 3 10 l1)) ∧ (¬ (l1 ≤ 999) → Q (.inr 0, ib_cost σ 1 6)))) :
    jb_w (d + 6) 117 0 [some (.ref 2), some (jb_v l1)] [] σ Q := by
  refine jiL1 (p := 1) rfl jM117 jq117_0 ?_
  refine jw_if (p := 4) rfl jM117 jq117_1 (jc_lt hl1 jb_r0) (fun c1 => ?_) (fun c1 => ?_)
  · have h1 := h.1 c1
    exact jb_throw (k := 0) jM117 jq117_11 rfl (Nat.le_add_left_of_le (by decide)) h1
  · have h1 := h.2 c1
    refine jiL1 (p := 5) rfl jM117 jq117_4 ?_
    refine jw_sipush (p := 8) rfl jM117 jq117_5 (by decide) ?_
    refine jw_ic (p := 11) rfl jM117 jq117_8 (jc_le hl1 (jb_rn rfl)) (fun c2 => ?_) (fun c2 => ?_)
    · have h2 := h1.1 c2
      refine jaL0 (p := 22) rfl jM117 jq117_21 ?_
      refine jw_getP (p := 25) (i := 0) (q := 3) rfl jM117 jq117_22 rfl (jo_2 hF) je_10_0 (jp_2_0 hF) ?_
      refine jiL1 (p := 26) rfl jM117 jq117_25 ?_
      refine jw_putI (p := 29) (i := 10) rfl jM117 jq117_26 rfl (jo_3 hF) (Or.inl jz_1_10) ?_
      exact jw_vret jM117 jq117_29 h2
    · have h2 := h1.2 c2
      exact jb_throw (k := 0) jM117 jq117_11 rfl (Nat.le_add_left_of_le (by decide)) h2
-- 118 PageLoom.crash()V
theorem jk118_0 {d : Nat} {σ : ib_H} {Q : ib_O → Prop}  (hF : jb_F σ) 
    (h : (¬ jb_i σ 2 8 = 0 → Q (.inl none, σ)) ∧ (¬ (¬ jb_i σ 2 8 = 0) → jb_w d 141 0 [some (.ref 2)] [] σ (jb_k (d + 1) 118 8 [some (.ref 2)] [] Q))) :
    jb_w (d + 1) 118 0 [some (.ref 2)] [] σ Q := by
  refine jaL0 (p := 1) rfl jM118 jq118_0 ?_
  refine jw_getI (p := 4) (i := 8) rfl jM118 jq118_1 rfl (jo_2 hF) jn_10_8 ?_
  refine jw_if (p := 7) rfl jM118 jq118_4 (jc_ne (jb_r_i _ _ _) jb_r0) (fun c1 => ?_) (fun c1 => ?_)
  · have h1 := h.1 c1
    exact jw_vret jM118 jq118_11 h1
  · have h1 := h.2 c1
    refine jaL0 (p := 8) rfl jM118 jq118_7 ?_
    refine jw_callV [] jM118 jq118_8 rfl rfl (jo_2 hF) rfl jM141 rfl rfl ?_
    exact h1
theorem jk118_11 {d : Nat} {σ : ib_H} {Q : ib_O → Prop}  (hF : jb_F σ) 
    (h : Q (.inl none, σ)) :
    jb_w d 118 11 [some (.ref 2)] [] σ Q := by
  exact jw_vret jM118 jq118_11 h
-- 119 PageLoom.recover()I
theorem jk119_0 {d : Nat} {σ : ib_H} {Q : ib_O → Prop}  (hF : jb_F σ) 
    (h : (¬ jb_i σ 2 8 = 0 → jb_w (d + 5) 51 0 [some (.ref 83), none] [] σ (jb_k (d + 6) 119 21 [some (.ref 2), none] [] Q)) ∧ (¬ (¬ jb_i σ 2 8 = 0) → Q (.inr 1, ib_cost σ 1 6))) :
    jb_w (d + 6) 119 0 [some (.ref 2), none] [] σ Q := by
  refine jaL0 (p := 1) rfl jM119 jq119_0 ?_
  refine jw_getI (p := 4) (i := 8) rfl jM119 jq119_1 rfl (jo_2 hF) jn_10_8 ?_
  refine jw_if (p := 7) rfl jM119 jq119_4 (jc_ne (jb_r_i _ _ _) jb_r0) (fun c1 => ?_) (fun c1 => ?_)
  · have h1 := h.1 c1
    refine jaL0 (p := 18) rfl jM119 jq119_17 ?_
    refine jw_getP (p := 21) (i := 6) (q := 83) rfl jM119 jq119_18 rfl (jo_2 hF) je_10_6 (jp_2_6 hF) ?_
    refine jw_callV [] jM119 jq119_21 rfl rfl (jo_83 hF) rfl jM51 rfl rfl ?_
    exact h1
  · have h1 := h.2 c1
    exact jb_throw (k := 1) jM119 jq119_7 rfl (Nat.le_add_left_of_le (by decide)) h1
theorem jk119_24 {d : Nat} {σ : ib_H} {Q : ib_O → Prop}  (hF : jb_F σ) 
    (h : jb_w d 52 0 [some (.ref 83)] [] σ (jb_k (d + 1) 119 28 [some (.ref 2), none] [] Q)) :
    jb_w (d + 1) 119 24 [some (.ref 2), none] [] σ Q := by
  refine jaL0 (p := 25) rfl jM119 jq119_24 ?_
  refine jw_getP (p := 28) (i := 6) (q := 83) rfl jM119 jq119_25 rfl (jo_2 hF) je_10_6 (jp_2_6 hF) ?_
  refine jw_callV [] jM119 jq119_28 rfl rfl (jo_83 hF) rfl jM52 rfl rfl ?_
  exact h
theorem jk119_31 {d : Nat} {σ : ib_H} {Q : ib_O → Prop} {s0 : Int} (hF : jb_F σ) (hs0 : jb_r s0)
    (h : (¬ s0 = 0 → jb_w d 53 0 [some (.ref 83), none, none, none, none] [] σ (jb_k (d + 1) 119 45 [some (.ref 2), none] [] Q)) ∧ (¬ (¬ s0 = 0) → jb_w d 140 0 [some (.ref 2), some (jb_v (-4))] [] σ (jb_k (d + 1) 119 37 [some (.ref 2), none] [] Q))) :
    jb_w (d + 1) 119 31 [some (.ref 2), none] [(jb_v s0)] σ Q := by
  refine jw_if (p := 34) rfl jM119 jq119_31 (jc_ne hs0 jb_r0) (fun c1 => ?_) (fun c1 => ?_)
  · have h1 := h.1 c1
    refine jaL0 (p := 42) rfl jM119 jq119_41 ?_
    refine jw_getP (p := 45) (i := 6) (q := 83) rfl jM119 jq119_42 rfl (jo_2 hF) je_10_6 (jp_2_6 hF) ?_
    refine jw_callV [] jM119 jq119_45 rfl rfl (jo_83 hF) rfl jM53 rfl rfl ?_
    exact h1
  · have h1 := h.2 c1
    refine jaL0 (p := 35) rfl jM119 jq119_34 ?_
    refine jw_bipush (p := 37) rfl jM119 jq119_35 (by decide) ?_
    refine jw_callV [(jb_v (-4))] jM119 jq119_37 rfl rfl (jo_2 hF) rfl jM140 rfl rfl ?_
    exact h1
theorem jk119_48 {d : Nat} {σ : ib_H} {Q : ib_O → Prop}  (hF : jb_F σ) 
    (h : jb_w d 57 0 [some (.ref 83), none, none, none] [] σ (jb_k (d + 1) 119 52 [some (.ref 2), none] [] Q)) :
    jb_w (d + 1) 119 48 [some (.ref 2), none] [] σ Q := by
  refine jaL0 (p := 49) rfl jM119 jq119_48 ?_
  refine jw_getP (p := 52) (i := 6) (q := 83) rfl jM119 jq119_49 rfl (jo_2 hF) je_10_6 (jp_2_6 hF) ?_
  refine jw_callV [] jM119 jq119_52 rfl rfl (jo_83 hF) rfl jM57 rfl rfl ?_
  exact h
theorem jk119_40 {d : Nat} {σ : ib_H} {Q : ib_O → Prop} {s0 : Int} (hF : jb_F σ) (hs0 : jb_r s0)
    (h : Q (.inl (some (jb_v s0)), σ)) :
    jb_w d 119 40 [some (.ref 2), none] [(jb_v s0)] σ Q := by
  exact jw_iret jM119 jq119_40 (fun z => absurd z (by decide)) h
theorem jk119_55 {d : Nat} {σ : ib_H} {Q : ib_O → Prop} {s0 : Int} (hF : jb_F σ) (hs0 : jb_r s0)
    (h : (s0 = 0 → jb_w d 140 0 [some (.ref 2), some (jb_v (-4))] [] σ (jb_k (d + 1) 119 71 [some (.ref 2), none] [] Q)) ∧ (¬ (s0 = 0) → jb_w d 60 0 [some (.ref 83), none, none, none] [] σ (jb_k (d + 1) 119 62 [some (.ref 2), none] [] Q))) :
    jb_w (d + 1) 119 55 [some (.ref 2), none] [(jb_v s0)] σ Q := by
  refine jw_if (p := 58) rfl jM119 jq119_55 (jc_eq hs0 jb_r0) (fun c1 => ?_) (fun c1 => ?_)
  · have h1 := h.1 c1
    refine jaL0 (p := 69) rfl jM119 jq119_68 ?_
    refine jw_bipush (p := 71) rfl jM119 jq119_69 (by decide) ?_
    refine jw_callV [(jb_v (-4))] jM119 jq119_71 rfl rfl (jo_2 hF) rfl jM140 rfl rfl ?_
    exact h1
  · have h1 := h.2 c1
    refine jaL0 (p := 59) rfl jM119 jq119_58 ?_
    refine jw_getP (p := 62) (i := 6) (q := 83) rfl jM119 jq119_59 rfl (jo_2 hF) je_10_6 (jp_2_6 hF) ?_
    refine jw_callV [] jM119 jq119_62 rfl rfl (jo_83 hF) rfl jM60 rfl rfl ?_
    exact h1
theorem jk119_74 {d : Nat} {σ : ib_H} {Q : ib_O → Prop} {s0 : Int} (hF : jb_F σ) (hs0 : jb_r s0)
    (h : Q (.inl (some (jb_v s0)), σ)) :
    jb_w d 119 74 [some (.ref 2), none] [(jb_v s0)] σ Q := by
  exact jw_iret jM119 jq119_74 (fun z => absurd z (by decide)) h
theorem jk119_65 {d : Nat} {σ : ib_H} {Q : ib_O → Prop} {s0 : Int} (hF : jb_F σ) (hs0 : jb_r s0)
    (h : (¬ s0 = 0 → jb_w d 91 0 [some (.ref 81), none] [] σ (jb_k (d + 1) 119 79 [some (.ref 2), none] [] Q)) ∧ (¬ (¬ s0 = 0) → jb_w d 140 0 [some (.ref 2), some (jb_v (-4))] [] σ (jb_k (d + 1) 119 71 [some (.ref 2), none] [] Q))) :
    jb_w (d + 1) 119 65 [some (.ref 2), none] [(jb_v s0)] σ Q := by
  refine jw_if (p := 68) rfl jM119 jq119_65 (jc_ne hs0 jb_r0) (fun c1 => ?_) (fun c1 => ?_)
  · have h1 := h.1 c1
    refine jaL0 (p := 76) rfl jM119 jq119_75 ?_
    refine jw_getP (p := 79) (i := 5) (q := 81) rfl jM119 jq119_76 rfl (jo_2 hF) je_10_5 (jp_2_5 hF) ?_
    refine jw_callV [] jM119 jq119_79 rfl rfl (jo_81 hF) rfl jM91 rfl rfl ?_
    exact h1
  · have h1 := h.2 c1
    refine jaL0 (p := 69) rfl jM119 jq119_68 ?_
    refine jw_bipush (p := 71) rfl jM119 jq119_69 (by decide) ?_
    refine jw_callV [(jb_v (-4))] jM119 jq119_71 rfl rfl (jo_2 hF) rfl jM140 rfl rfl ?_
    exact h1
theorem jk119_82 {d : Nat} {σ : ib_H} {Q : ib_O → Prop}  (hF : jb_F σ) 
    (h : jb_w d 92 0 [some (.ref 81), some (jb_v 0), some (jb_v 1), none, none, none, none, none, none] [] σ (jb_k (d + 1) 119 88 [some (.ref 2), none] [] Q)) :
    jb_w (d + 1) 119 82 [some (.ref 2), none] [] σ Q := by
  refine jaL0 (p := 83) rfl jM119 jq119_82 ?_
  refine jw_getP (p := 86) (i := 5) (q := 81) rfl jM119 jq119_83 rfl (jo_2 hF) je_10_5 (jp_2_5 hF) ?_
  refine jw_iconst (p := 87) rfl jM119 jq119_86 ?_
  refine jw_iconst (p := 88) rfl jM119 jq119_87 ?_
  refine jw_callV [(jb_v 0), (jb_v 1)] jM119 jq119_88 rfl rfl (jo_81 hF) rfl jM92 rfl rfl ?_
  exact h
theorem jk119_91 {d : Nat} {σ : ib_H} {Q : ib_O → Prop} {s0 : Int} (hF : jb_F σ) (hs0 : jb_r s0)
    (h : (¬ s0 = 0 → jb_w d 64 0 [some (.ref 57), none] [] (jb_si σ 85 2 (jb_i σ 81 4)) (jb_k (d + 1) 119 123 [some (.ref 2), some (jb_v s0)] [] Q)) ∧ (¬ (¬ s0 = 0) → jb_w d 140 0 [some (.ref 2), some (jb_v (-4))] [] (jb_si σ 85 2 (jb_i σ 81 4)) (jb_k (d + 1) 119 115 [some (.ref 2), some (jb_v s0)] [] Q))) :
    jb_w (d + 1) 119 91 [some (.ref 2), none] [(jb_v s0)] σ Q := by
  refine jiS1 (p := 92) rfl jM119 jq119_91 ?_
  refine jaL0 (p := 93) rfl jM119 jq119_92 ?_
  refine jw_getP (p := 96) (i := 6) (q := 83) rfl jM119 jq119_93 rfl (jo_2 hF) je_10_6 (jp_2_6 hF) ?_
  refine jw_getP (p := 99) (i := 6) (q := 85) rfl jM119 jq119_96 rfl (jo_83 hF) je_5_6 (jp_83_6 hF) ?_
  refine jw_iconst (p := 100) rfl jM119 jq119_99 ?_
  refine jaL0 (p := 101) rfl jM119 jq119_100 ?_
  refine jw_getP (p := 104) (i := 5) (q := 81) rfl jM119 jq119_101 rfl (jo_2 hF) je_10_5 (jp_2_5 hF) ?_
  refine jw_getI (p := 107) (i := 4) rfl jM119 jq119_104 rfl (jo_81 hF) jn_8_4 ?_
  refine jw_iast (p := 108) rfl jM119 jq119_107 (ja_85 hF) (by decide) (by decide) ?_
  refine jiL1 (p := 109) rfl jM119 jq119_108 ?_
  refine jw_if (p := 112) rfl jM119 jq119_109 (jc_ne hs0 jb_r0) (fun c1 => ?_) (fun c1 => ?_)
  · have h1 := h.1 c1
    refine jaL0 (p := 120) rfl jM119 jq119_119 ?_
    refine jw_getP (p := 123) (i := 1) (q := 57) rfl jM119 jq119_120 rfl (jo_2 hF) je_10_1 (jp_2_1 hF) ?_
    refine jw_callV [] jM119 jq119_123 rfl rfl (jo_57 hF) rfl jM64 rfl rfl ?_
    exact h1
  · have h1 := h.2 c1
    refine jaL0 (p := 113) rfl jM119 jq119_112 ?_
    refine jw_bipush (p := 115) rfl jM119 jq119_113 (by decide) ?_
    refine jw_callV [(jb_v (-4))] jM119 jq119_115 rfl rfl (jo_2 hF) rfl jM140 rfl rfl ?_
    exact h1
theorem jk119_126 {d : Nat} {σ : ib_H} {Q : ib_O → Prop} {l1 : Int} (hF : jb_F σ) (hl1 : jb_r l1)
    (h : Q (.inl (some (jb_v 0)), jb_si σ 2 8 0)) :
    jb_w d 119 126 [some (.ref 2), some (jb_v l1)] [] σ Q := by
  refine jaL0 (p := 127) rfl jM119 jq119_126 ?_
  refine jw_iconst (p := 128) rfl jM119 jq119_127 ?_
  refine jw_putI (p := 131) (i := 8) rfl jM119 jq119_128 rfl (jo_2 hF) (Or.inr ⟨jy_10_8, Or.inl rfl⟩) ?_
  refine jw_iconst (p := 132) rfl jM119 jq119_131 ?_
  exact jw_iret jM119 jq119_132 (fun z => absurd z (by decide)) h
theorem jk119_118 {d : Nat} {σ : ib_H} {Q : ib_O → Prop} {l1 : Int} {s0 : Int} (hF : jb_F σ) (hl1 : jb_r l1) (hs0 : jb_r s0)
    (h : Q (.inl (some (jb_v s0)), σ)) :
    jb_w d 119 118 [some (.ref 2), some (jb_v l1)] [(jb_v s0)] σ Q := by
  exact jw_iret jM119 jq119_118 (fun z => absurd z (by decide)) h
-- 120 PageLoom.records()I
theorem jk120_0 {d : Nat} {σ : ib_H} {Q : ib_O → Prop}  (hF : jb_F σ) 
    (h : Q (.inl (some (jb_v (jb_i σ 63 4))), σ)) :
    jb_w d 120 0 [some (.ref 2)] [] σ Q := by
  refine jaL0 (p := 1) rfl jM120 jq120_0 ?_
  refine jw_getP (p := 4) (i := 2) (q := 63) rfl jM120 jq120_1 rfl (jo_2 hF) je_10_2 (jp_2_2 hF) ?_
  refine jw_getI (p := 7) (i := 4) rfl jM120 jq120_4 rfl (jo_63 hF) jn_2_4 ?_
  exact jw_iret jM120 jq120_7 (fun z => absurd z (by decide)) h
-- 121 PageLoom.page(II)I
theorem jk121_0 {d : Nat} {σ : ib_H} {Q : ib_O → Prop} {l1 : Int} {l2 : Int} (hF : jb_F σ) (hl1 : jb_r l1) (hl2 : jb_r l2)
    (h : jb_w d 136 0 [some (jb_v l1)] [] σ (jb_k (d + 1) 121 1 [some (.ref 2), some (jb_v l1), some (jb_v l2), none] [] Q)) :
    jb_w (d + 1) 121 0 [some (.ref 2), some (jb_v l1), some (jb_v l2), none] [] σ Q := by
  refine jiL1 (p := 1) rfl jM121 jq121_0 ?_
  refine jw_callS [(jb_v l1)] jM121 jq121_1 rfl rfl rfl jM136 rfl rfl ?_
  exact h
theorem jk121_4 {d : Nat} {σ : ib_H} {Q : ib_O → Prop} {l1 : Int} {l2 : Int} (hF : jb_F σ) (hl1 : jb_r l1) (hl2 : jb_r l2)
    (h : (l2 < 0 → Q (.inr 0, ib_cost σ 1 6)) ∧ (¬ (l2 < 0) → (l2 ≤ 3 → (¬ l2 = 3 → jb_w (d + 5) 3 0 [some (.ref 66), some (jb_v l1), none] [] σ (jb_k (d + 6) 121 51 [some (.ref 2), some (jb_v l1), some (jb_v l2), none] [] Q)) ∧ (¬ (¬ l2 = 3) → jb_w (d + 5) 2 0 [some (.ref 66), some (jb_v l1), none] [] σ (jb_k (d + 6) 121 33 [some (.ref 2), some (jb_v l1), some (jb_v l2), none] [] Q))) ∧ (¬ (l2 ≤ 3) → Q (.inr 0, ib_cost σ 1 6)))) :
    jb_w (d + 6) 121 4 [some (.ref 2), some (jb_v l1), some (jb_v l2), none] [] σ Q := by
  refine jiL2 (p := 5) rfl jM121 jq121_4 ?_
  refine jw_if (p := 8) rfl jM121 jq121_5 (jc_lt hl2 jb_r0) (fun c1 => ?_) (fun c1 => ?_)
  · have h1 := h.1 c1
    exact jb_throw (k := 0) jM121 jq121_13 rfl (Nat.le_add_left_of_le (by decide)) h1
  · have h1 := h.2 c1
    refine jiL2 (p := 9) rfl jM121 jq121_8 ?_
    refine jw_iconst (p := 10) rfl jM121 jq121_9 ?_
    refine jw_ic (p := 13) rfl jM121 jq121_10 (jc_le hl2 (jb_rn rfl)) (fun c2 => ?_) (fun c2 => ?_)
    · have h2 := h1.1 c2
      refine jiL2 (p := 24) rfl jM121 jq121_23 ?_
      refine jw_iconst (p := 25) rfl jM121 jq121_24 ?_
      refine jw_ic (p := 28) rfl jM121 jq121_25 (jc_ne hl2 (jb_rn rfl)) (fun c3 => ?_) (fun c3 => ?_)
      · have h3 := h2.1 c3
        refine jaL0 (p := 47) rfl jM121 jq121_46 ?_
        refine jw_getP (p := 50) (i := 3) (q := 66) rfl jM121 jq121_47 rfl (jo_2 hF) je_10_3 (jp_2_3 hF) ?_
        refine jiL1 (p := 51) rfl jM121 jq121_50 ?_
        refine jw_callV [(jb_v l1)] jM121 jq121_51 rfl rfl (jo_66 hF) rfl jM3 rfl rfl ?_
        exact h3
      · have h3 := h2.2 c3
        refine jaL0 (p := 29) rfl jM121 jq121_28 ?_
        refine jw_getP (p := 32) (i := 3) (q := 66) rfl jM121 jq121_29 rfl (jo_2 hF) je_10_3 (jp_2_3 hF) ?_
        refine jiL1 (p := 33) rfl jM121 jq121_32 ?_
        refine jw_callV [(jb_v l1)] jM121 jq121_33 rfl rfl (jo_66 hF) rfl jM2 rfl rfl ?_
        exact h3
    · have h2 := h1.2 c2
      exact jb_throw (k := 0) jM121 jq121_13 rfl (Nat.le_add_left_of_le (by decide)) h2
theorem jk121_54 {d : Nat} {σ : ib_H} {Q : ib_O → Prop} {l1 : Int} {l2 : Int} {s0 : Nat} (hF : jb_F σ) (hl1 : jb_r l1) (hl2 : jb_r l2) (hs0 : s0 ≠ 0 → jb_pg σ s0)
    (h : (¬ s0 = 0 → (¬ l2 = 0 → (¬ l2 = 1 → Q (.inl (some (jb_v (jb_i σ s0 2))), σ)) ∧ (¬ (¬ l2 = 1) → Q (.inl (some (jb_v (jb_i σ s0 1))), σ))) ∧ (¬ (¬ l2 = 0) → Q (.inl (some (jb_v (jb_i σ s0 0))), σ))) ∧ (s0 = 0 → Q (.inl (some (jb_v (-1))), σ))) :
    jb_w d 121 54 [some (.ref 2), some (jb_v l1), some (jb_v l2), none] [(.ref s0)] σ Q := by
  refine jaS3 (p := 55) rfl jM121 jq121_54 ?_
  refine jaL3 (p := 56) rfl jM121 jq121_55 ?_
  refine jw_ifnonnull (p := 59) rfl jM121 jq121_56 (fun c1 => ?_) (fun c1 => ?_)
  · have h1 := h.1 c1
    refine jiL2 (p := 62) rfl jM121 jq121_61 ?_
    refine jw_if (p := 65) rfl jM121 jq121_62 (jc_ne hl2 jb_r0) (fun c2 => ?_) (fun c2 => ?_)
    · have h2 := h1.1 c2
      refine jiL2 (p := 71) rfl jM121 jq121_70 ?_
      refine jw_iconst (p := 72) rfl jM121 jq121_71 ?_
      refine jw_ic (p := 75) rfl jM121 jq121_72 (jc_ne hl2 (jb_rn rfl)) (fun c3 => ?_) (fun c3 => ?_)
      · have h3 := h2.1 c3
        refine jaL3 (p := 83) rfl jM121 jq121_82 ?_
        refine jw_getI (p := 86) (i := 2) rfl jM121 jq121_83 rfl (hs0 c1).ob jn_4_2 ?_
        exact jw_iret jM121 jq121_86 (fun z => absurd z (by decide)) h3
      · have h3 := h2.2 c3
        refine jaL3 (p := 76) rfl jM121 jq121_75 ?_
        refine jw_getI (p := 79) (i := 1) rfl jM121 jq121_76 rfl (hs0 c1).ob jn_4_1 ?_
        refine jw_goto jM121 jq121_79 ?_
        exact jw_iret jM121 jq121_86 (fun z => absurd z (by decide)) h3
    · have h2 := h1.2 c2
      refine jaL3 (p := 66) rfl jM121 jq121_65 ?_
      refine jw_getI (p := 69) (i := 0) rfl jM121 jq121_66 rfl (hs0 c1).ob jn_4_0 ?_
      exact jw_iret jM121 jq121_69 (fun z => absurd z (by decide)) h2
  · have h1 := h.2 c1
    refine jw_iconst (p := 60) rfl jM121 jq121_59 ?_
    exact jw_iret jM121 jq121_60 (fun z => absurd z (by decide)) h1
theorem jk121_36 {d : Nat} {σ : ib_H} {Q : ib_O → Prop} {l1 : Int} {l2 : Int} {s0 : Int} (hF : jb_F σ) (hl1 : jb_r l1) (hl2 : jb_r l2) (hs0 : jb_r s0)
    (h : (¬ s0 = (-1) → Q (.inl (some (jb_v 1)), σ)) ∧ (¬ (¬ s0 = (-1)) → Q (.inl (some (jb_v 0)), σ))) :
    jb_w d 121 36 [some (.ref 2), some (jb_v l1), some (jb_v l2), none] [(jb_v s0)] σ Q := by
  refine jw_iconst (p := 37) rfl jM121 jq121_36 ?_
  refine jw_ic (p := 40) rfl jM121 jq121_37 (jc_ne hs0 (jb_rn rfl)) (fun c1 => ?_) (fun c1 => ?_)
  · have h1 := h.1 c1
    refine jw_iconst (p := 45) rfl jM121 jq121_44 ?_
    exact jw_iret jM121 jq121_45 (fun z => absurd z (by decide)) h1
  · have h1 := h.2 c1
    refine jw_iconst (p := 41) rfl jM121 jq121_40 ?_
    refine jw_goto jM121 jq121_41 ?_
    exact jw_iret jM121 jq121_45 (fun z => absurd z (by decide)) h1
-- 122 PageLoom.entry(II)I
theorem jk122_0 {d : Nat} {σ : ib_H} {Q : ib_O → Prop} {l1 : Int} {l2 : Int} (hF : jb_F σ) (hl1 : jb_r l1) (hl2 : jb_r l2)
    (h : jb_w d 136 0 [some (jb_v l1)] [] σ (jb_k (d + 1) 122 1 [some (.ref 2), some (jb_v l1), some (jb_v l2), none] [] Q)) :
    jb_w (d + 1) 122 0 [some (.ref 2), some (jb_v l1), some (jb_v l2), none] [] σ Q := by
  refine jiL1 (p := 1) rfl jM122 jq122_0 ?_
  refine jw_callS [(jb_v l1)] jM122 jq122_1 rfl rfl rfl jM136 rfl rfl ?_
  exact h
theorem jk122_4 {d : Nat} {σ : ib_H} {Q : ib_O → Prop} {l1 : Int} {l2 : Int} (hF : jb_F σ) (hl1 : jb_r l1) (hl2 : jb_r l2)
    (h : (0 ≤ l2 → jb_w (d + 5) 3 0 [some (.ref 66), some (jb_v l1), none] [] σ (jb_k (d + 6) 122 24 [some (.ref 2), some (jb_v l1), some (jb_v l2), none] [] Q)) ∧ (¬ (0 ≤ l2) → Q (.inr 2, ib_cost σ 1 6))) :
    jb_w (d + 6) 122 4 [some (.ref 2), some (jb_v l1), some (jb_v l2), none] [] σ Q := by
  refine jiL2 (p := 5) rfl jM122 jq122_4 ?_
  refine jw_if (p := 8) rfl jM122 jq122_5 (jc_ge hl2 jb_r0) (fun c1 => ?_) (fun c1 => ?_)
  · have h1 := h.1 c1
    refine jaL0 (p := 20) rfl jM122 jq122_19 ?_
    refine jw_getP (p := 23) (i := 3) (q := 66) rfl jM122 jq122_20 rfl (jo_2 hF) je_10_3 (jp_2_3 hF) ?_
    refine jiL1 (p := 24) rfl jM122 jq122_23 ?_
    refine jw_callV [(jb_v l1)] jM122 jq122_24 rfl rfl (jo_66 hF) rfl jM3 rfl rfl ?_
    exact h1
  · have h1 := h.2 c1
    exact jb_throw (k := 2) jM122 jq122_8 rfl (Nat.le_add_left_of_le (by decide)) h1
theorem jk122_27 {d : Nat} {σ : ib_H} {Q : ib_O → Prop} {l1 : Int} {l2 : Int} {s0 : Nat} (hF : jb_F σ) (hl1 : jb_r l1) (hl2 : jb_r l2) (hs0 : s0 ≠ 0 → jb_pg σ s0)
    (h : (s0 = 0 → Q (.inl (some (jb_v (-1))), σ)) ∧ (¬ (s0 = 0) → (l2 < jb_i σ s0 2 → jb_w d 37 0 [some (.ref s0), some (jb_v l2)] [] σ (jb_k (d + 1) 122 46 [some (.ref 2), some (jb_v l1), some (jb_v l2), some (.ref s0)] [] Q)) ∧ (¬ (l2 < jb_i σ s0 2) → Q (.inl (some (jb_v (-1))), σ)))) :
    jb_w (d + 1) 122 27 [some (.ref 2), some (jb_v l1), some (jb_v l2), none] [(.ref s0)] σ Q := by
  refine jaS3 (p := 28) rfl jM122 jq122_27 ?_
  refine jaL3 (p := 29) rfl jM122 jq122_28 ?_
  refine jw_ifnull (p := 32) rfl jM122 jq122_29 (fun c1 => ?_) (fun c1 => ?_)
  · have h1 := h.1 c1
    refine jw_iconst (p := 41) rfl jM122 jq122_40 ?_
    refine jw_goto jM122 jq122_41 ?_
    exact jw_iret jM122 jq122_49 (fun z => absurd z (by decide)) h1
  · have h1 := h.2 c1
    refine jiL2 (p := 33) rfl jM122 jq122_32 ?_
    refine jaL3 (p := 34) rfl jM122 jq122_33 ?_
    refine jw_getI (p := 37) (i := 2) rfl jM122 jq122_34 rfl (hs0 c1).ob jn_4_2 ?_
    refine jw_ic (p := 40) rfl jM122 jq122_37 (jc_lt hl2 (jb_r_i _ _ _)) (fun c2 => ?_) (fun c2 => ?_)
    · have h2 := h1.1 c2
      refine jaL3 (p := 45) rfl jM122 jq122_44 ?_
      refine jiL2 (p := 46) rfl jM122 jq122_45 ?_
      refine jw_callV [(jb_v l2)] jM122 jq122_46 rfl rfl (hs0 c1).ob rfl jM37 rfl rfl ?_
      exact h2
    · have h2 := h1.2 c2
      refine jw_iconst (p := 41) rfl jM122 jq122_40 ?_
      refine jw_goto jM122 jq122_41 ?_
      exact jw_iret jM122 jq122_49 (fun z => absurd z (by decide)) h2
theorem jk122_49 {d : Nat} {σ : ib_H} {Q : ib_O → Prop} {l1 : Int} {l2 : Int} {l3 : Nat} {s0 : Int} (hF : jb_F σ) (hl1 : jb_r l1) (hl2 : jb_r l2) (hl3 : l3 ≠ 0 → jb_pg σ l3) (hs0 : jb_r s0)
    (h : Q (.inl (some (jb_v s0)), σ)) :
    jb_w d 122 49 [some (.ref 2), some (jb_v l1), some (jb_v l2), some (.ref l3)] [(jb_v s0)] σ Q := by
  exact jw_iret jM122 jq122_49 (fun z => absurd z (by decide)) h
-- 123 PageLoom.records()I
theorem jk123_0 {d : Nat} {σ : ib_H} {Q : ib_O → Prop}  (hF : jb_F σ) 
    (h : Q (.inl (some (jb_v (jb_i σ 63 4))), σ)) :
    jb_w d 123 0 [some (.ref 2)] [] σ Q := by
  refine jaL0 (p := 1) rfl jM123 jq123_0 ?_
  refine jw_getP (p := 4) (i := 2) (q := 63) rfl jM123 jq123_1 rfl (jo_2 hF) je_10_2 (jp_2_2 hF) ?_
  refine jw_getI (p := 7) (i := 4) rfl jM123 jq123_4 rfl (jo_63 hF) jn_2_4 ?_
  exact jw_iret jM123 jq123_7 (fun z => absurd z (by decide)) h
-- 124 PageLoom.records()I
theorem jk124_0 {d : Nat} {σ : ib_H} {Q : ib_O → Prop}  (hF : jb_F σ) 
    (h : Q (.inl (some (jb_v (jb_i σ 63 4))), σ)) :
    jb_w d 124 0 [some (.ref 2)] [] σ Q := by
  refine jaL0 (p := 1) rfl jM124 jq124_0 ?_
  refine jw_getP (p := 4) (i := 2) (q := 63) rfl jM124 jq124_1 rfl (jo_2 hF) je_10_2 (jp_2_2 hF) ?_
  refine jw_getI (p := 7) (i := 4) rfl jM124 jq124_4 rfl (jo_63 hF) jn_2_4 ?_
  exact jw_iret jM124 jq124_7 (fun z => absurd z (by decide)) h
-- 125 PageLoom.records()I
theorem jk125_0 {d : Nat} {σ : ib_H} {Q : ib_O → Prop}  (hF : jb_F σ) 
    (h : Q (.inl (some (jb_v (jb_i σ 63 4))), σ)) :
    jb_w d 125 0 [some (.ref 2)] [] σ Q := by
  refine jaL0 (p := 1) rfl jM125 jq125_0 ?_
  refine jw_getP (p := 4) (i := 2) (q := 63) rfl jM125 jq125_1 rfl (jo_2 hF) je_10_2 (jp_2_2 hF) ?_
  refine jw_getI (p := 7) (i := 4) rfl jM125 jq125_4 rfl (jo_63 hF) jn_2_4 ?_
  exact jw_iret jM125 jq125_7 (fun z => absurd z (by decide)) h
-- 126 PageLoom.records()I
theorem jk126_0 {d : Nat} {σ : ib_H} {Q : ib_O → Prop}  (hF : jb_F σ) 
    (h : Q (.inl (some (jb_v (jb_i σ 63 4))), σ)) :
    jb_w d 126 0 [some (.ref 2)] [] σ Q := by
  refine jaL0 (p := 1) rfl jM126 jq126_0 ?_
  refine jw_getP (p := 4) (i := 2) (q := 63) rfl jM126 jq126_1 rfl (jo_2 hF) je_10_2 (jp_2_2 hF) ?_
  refine jw_getI (p := 7) (i := 4) rfl jM126 jq126_4 rfl (jo_63 hF) jn_2_4 ?_
  exact jw_iret jM126 jq126_7 (fun z => absurd z (by decide)) h
-- 127 PageLoom.durable()I
theorem jk127_0 {d : Nat} {σ : ib_H} {Q : ib_O → Prop}  (hF : jb_F σ) 
    (h : Q (.inl (some (jb_v (jb_i σ 3 8))), σ)) :
    jb_w d 127 0 [some (.ref 2)] [] σ Q := by
  refine jaL0 (p := 1) rfl jM127 jq127_0 ?_
  refine jw_getP (p := 4) (i := 0) (q := 3) rfl jM127 jq127_1 rfl (jo_2 hF) je_10_0 (jp_2_0 hF) ?_
  refine jw_getI (p := 7) (i := 8) rfl jM127 jq127_4 rfl (jo_3 hF) jn_1_8 ?_
  exact jw_iret jM127 jq127_7 (fun z => absurd z (by decide)) h
-- 128 PageLoom.records()I
theorem jk128_0 {d : Nat} {σ : ib_H} {Q : ib_O → Prop}  (hF : jb_F σ) 
    (h : Q (.inl (some (jb_v (jb_i σ 63 4))), σ)) :
    jb_w d 128 0 [some (.ref 2)] [] σ Q := by
  refine jaL0 (p := 1) rfl jM128 jq128_0 ?_
  refine jw_getP (p := 4) (i := 2) (q := 63) rfl jM128 jq128_1 rfl (jo_2 hF) je_10_2 (jp_2_2 hF) ?_
  refine jw_getI (p := 7) (i := 4) rfl jM128 jq128_4 rfl (jo_63 hF) jn_2_4 ?_
  exact jw_iret jM128 jq128_7 (fun z => absurd z (by decide)) h
-- 129 PageLoom.holder(I)I
theorem jk129_0 {d : Nat} {σ : ib_H} {Q : ib_O → Prop} {l1 : Int} (hF : jb_F σ) (hl1 : jb_r l1)
    (h : jb_w d 135 0 [some (jb_v l1)] [] σ (jb_k (d + 1) 129 1 [some (.ref 2), some (jb_v l1)] [] Q)) :
    jb_w (d + 1) 129 0 [some (.ref 2), some (jb_v l1)] [] σ Q := by
  refine jiL1 (p := 1) rfl jM129 jq129_0 ?_
  refine jw_callS [(jb_v l1)] jM129 jq129_1 rfl rfl rfl jM135 rfl rfl ?_
  exact h
theorem jk129_4 {d : Nat} {σ : ib_H} {Q : ib_O → Prop} {l1 : Int} (hF : jb_F σ) (hl1 : jb_r l1)
    (h : (0 ≤ l1 ∧ l1 < 32) ∧ (Q (.inl (some (jb_v (jb_i σ 62 l1))), σ))) :
    jb_w d 129 4 [some (.ref 2), some (jb_v l1)] [] σ Q := by
  refine jaL0 (p := 5) rfl jM129 jq129_4 ?_
  refine jw_getP (p := 8) (i := 1) (q := 57) rfl jM129 jq129_5 rfl (jo_2 hF) je_10_1 (jp_2_1 hF) ?_
  refine jw_getP (p := 11) (i := 4) (q := 62) rfl jM129 jq129_8 rfl (jo_57 hF) je_6_4 (jp_57_4 hF) ?_
  refine jiL1 (p := 12) rfl jM129 jq129_11 ?_
  obtain ⟨c1, h1⟩ := h
  refine jw_iald (p := 13) rfl jM129 jq129_12 (ja_62 hF) c1.1 c1.2 ?_
  exact jw_iret jM129 jq129_13 (fun z => absurd z (by decide)) h1
-- 130 PageLoom.waitsFor(I)I
theorem jk130_0 {d : Nat} {σ : ib_H} {Q : ib_O → Prop} {l1 : Int} (hF : jb_F σ) (hl1 : jb_r l1)
    (h : jb_w d 134 0 [some (jb_v l1)] [] σ (jb_k (d + 1) 130 1 [some (.ref 2), some (jb_v l1)] [] Q)) :
    jb_w (d + 1) 130 0 [some (.ref 2), some (jb_v l1)] [] σ Q := by
  refine jiL1 (p := 1) rfl jM130 jq130_0 ?_
  refine jw_callS [(jb_v l1)] jM130 jq130_1 rfl rfl rfl jM134 rfl rfl ?_
  exact h
theorem jk130_4 {d : Nat} {σ : ib_H} {Q : ib_O → Prop} {l1 : Int} (hF : jb_F σ) (hl1 : jb_r l1)
    (h : (0 ≤ l1 ∧ l1 < 4) ∧ (Q (.inl (some (jb_v (jb_i σ 61 l1))), σ))) :
    jb_w d 130 4 [some (.ref 2), some (jb_v l1)] [] σ Q := by
  refine jaL0 (p := 5) rfl jM130 jq130_4 ?_
  refine jw_getP (p := 8) (i := 1) (q := 57) rfl jM130 jq130_5 rfl (jo_2 hF) je_10_1 (jp_2_1 hF) ?_
  refine jw_getP (p := 11) (i := 3) (q := 61) rfl jM130 jq130_8 rfl (jo_57 hF) je_6_3 (jp_57_3 hF) ?_
  refine jiL1 (p := 12) rfl jM130 jq130_11 ?_
  obtain ⟨c1, h1⟩ := h
  refine jw_iald (p := 13) rfl jM130 jq130_12 (ja_61 hF) c1.1 c1.2 ?_
  exact jw_iret jM130 jq130_13 (fun z => absurd z (by decide)) h1
-- 131 PageLoom.plain(I)I
theorem jk131_0 {d : Nat} {σ : ib_H} {Q : ib_O → Prop} {l1 : Int} (hF : jb_F σ) (hl1 : jb_r l1)
    (h : jb_w d 135 0 [some (jb_v l1)] [] σ (jb_k (d + 1) 131 1 [some (.ref 2), some (jb_v l1)] [] Q)) :
    jb_w (d + 1) 131 0 [some (.ref 2), some (jb_v l1)] [] σ Q := by
  refine jiL1 (p := 1) rfl jM131 jq131_0 ?_
  refine jw_callS [(jb_v l1)] jM131 jq131_1 rfl rfl rfl jM135 rfl rfl ?_
  exact h
theorem jk131_4 {d : Nat} {σ : ib_H} {Q : ib_O → Prop} {l1 : Int} (hF : jb_F σ) (hl1 : jb_r l1)
    (h : jb_w d 22 0 [some (.ref 63), none, none] [] σ (jb_k (d + 1) 131 8 [some (.ref 2), some (jb_v l1)] [] Q)) :
    jb_w (d + 1) 131 4 [some (.ref 2), some (jb_v l1)] [] σ Q := by
  refine jaL0 (p := 5) rfl jM131 jq131_4 ?_
  refine jw_getP (p := 8) (i := 2) (q := 63) rfl jM131 jq131_5 rfl (jo_2 hF) je_10_2 (jp_2_2 hF) ?_
  refine jw_callV [] jM131 jq131_8 rfl rfl (jo_63 hF) rfl jM22 rfl rfl ?_
  exact h
theorem jk131_11 {d : Nat} {σ : ib_H} {Q : ib_O → Prop} {l1 : Int} (hF : jb_F σ) (hl1 : jb_r l1)
    (h : (0 ≤ l1 ∧ l1 < 32) ∧ (Q (.inl (some (jb_v (jb_i σ 65 l1))), σ))) :
    jb_w d 131 11 [some (.ref 2), some (jb_v l1)] [(.ref 65)] σ Q := by
  refine jiL1 (p := 12) rfl jM131 jq131_11 ?_
  obtain ⟨c1, h1⟩ := h
  refine jw_iald (p := 13) rfl jM131 jq131_12 (ja_65 hF) c1.1 c1.2 ?_
  exact jw_iret jM131 jq131_13 (fun z => absurd z (by decide)) h1
-- 132 PageLoom.agrees()Z
theorem jk132_0 {d : Nat} {σ : ib_H} {Q : ib_O → Prop}  (hF : jb_F σ) 
    (h : jb_w d 98 0 [some (.ref 86), none, none, none] [] σ (jb_k (d + 1) 132 4 [some (.ref 2)] [] Q)) :
    jb_w (d + 1) 132 0 [some (.ref 2)] [] σ Q := by
  refine jaL0 (p := 1) rfl jM132 jq132_0 ?_
  refine jw_getP (p := 4) (i := 7) (q := 86) rfl jM132 jq132_1 rfl (jo_2 hF) je_10_7 (jp_2_7 hF) ?_
  refine jw_callV [] jM132 jq132_4 rfl rfl (jo_86 hF) rfl jM98 rfl rfl ?_
  exact h
theorem jk132_7 {d : Nat} {σ : ib_H} {Q : ib_O → Prop} {s0 : Int} (hF : jb_F σ) (hs0 : jb_r s0)
    (h : (s0 = 0 ∨ s0 = 1) ∧ (Q (.inl (some (jb_v s0)), σ))) :
    jb_w d 132 7 [some (.ref 2)] [(jb_v s0)] σ Q := by
  obtain ⟨c1, h1⟩ := h
  exact jw_iret jM132 jq132_7 (fun _ => c1) h1
-- 133 PageLoom.check()I
theorem jk133_0 {d : Nat} {σ : ib_H} {Q : ib_O → Prop}  (hF : jb_F σ) 
    (h : jb_w d 100 0 [some (.ref 86), none, none] [] σ (jb_k (d + 1) 133 4 [some (.ref 2)] [] Q)) :
    jb_w (d + 1) 133 0 [some (.ref 2)] [] σ Q := by
  refine jaL0 (p := 1) rfl jM133 jq133_0 ?_
  refine jw_getP (p := 4) (i := 7) (q := 86) rfl jM133 jq133_1 rfl (jo_2 hF) je_10_7 (jp_2_7 hF) ?_
  refine jw_callV [] jM133 jq133_4 rfl rfl (jo_86 hF) rfl jM100 rfl rfl ?_
  exact h
theorem jk133_7 {d : Nat} {σ : ib_H} {Q : ib_O → Prop} {s0 : Int} (hF : jb_F σ) (hs0 : jb_r s0)
    (h : Q (.inl (some (jb_v s0)), σ)) :
    jb_w d 133 7 [some (.ref 2)] [(jb_v s0)] σ Q := by
  exact jw_iret jM133 jq133_7 (fun z => absurd z (by decide)) h
-- 134 PageLoom.needTransaction(I)V
theorem jk134_0 {d : Nat} {σ : ib_H} {Q : ib_O → Prop} {l0 : Int} (hF : jb_F σ) (hl0 : jb_r l0)
    (h : (l0 < 0 → Q (.inr 0, ib_cost σ 1 6)) ∧ (¬ (l0 < 0) → (l0 < 4 → Q (.inl none, σ)) ∧ (¬ (l0 < 4) → Q (.inr 0, ib_cost σ 1 6)))) :
    jb_w (d + 6) 134 0 [some (jb_v l0)] [] σ Q := by
  refine jiL0 (p := 1) rfl jM134 jq134_0 ?_
  refine jw_if (p := 4) rfl jM134 jq134_1 (jc_lt hl0 jb_r0) (fun c1 => ?_) (fun c1 => ?_)
  · have h1 := h.1 c1
    exact jb_throw (k := 0) jM134 jq134_9 rfl (Nat.le_add_left_of_le (by decide)) h1
  · have h1 := h.2 c1
    refine jiL0 (p := 5) rfl jM134 jq134_4 ?_
    refine jw_iconst (p := 6) rfl jM134 jq134_5 ?_
    refine jw_ic (p := 9) rfl jM134 jq134_6 (jc_lt hl0 (jb_rn rfl)) (fun c2 => ?_) (fun c2 => ?_)
    · have h2 := h1.1 c2
      exact jw_vret jM134 jq134_20 h2
    · have h2 := h1.2 c2
      exact jb_throw (k := 0) jM134 jq134_9 rfl (Nat.le_add_left_of_le (by decide)) h2
-- 135 PageLoom.needKey(I)V
theorem jk135_0 {d : Nat} {σ : ib_H} {Q : ib_O → Prop} {l0 : Int} (hF : jb_F σ) (hl0 : jb_r l0)
    (h : (l0 < 0 → Q (.inr 0, ib_cost σ 1 6)) ∧ (¬ (l0 < 0) → (l0 < 32 → Q (.inl none, σ)) ∧ (¬ (l0 < 32) → Q (.inr 0, ib_cost σ 1 6)))) :
    jb_w (d + 6) 135 0 [some (jb_v l0)] [] σ Q := by
  refine jiL0 (p := 1) rfl jM135 jq135_0 ?_
  refine jw_if (p := 4) rfl jM135 jq135_1 (jc_lt hl0 jb_r0) (fun c1 => ?_) (fun c1 => ?_)
  · have h1 := h.1 c1
    exact jb_throw (k := 0) jM135 jq135_10 rfl (Nat.le_add_left_of_le (by decide)) h1
  · have h1 := h.2 c1
    refine jiL0 (p := 5) rfl jM135 jq135_4 ?_
    refine jw_bipush (p := 7) rfl jM135 jq135_5 (by decide) ?_
    refine jw_ic (p := 10) rfl jM135 jq135_7 (jc_lt hl0 (jb_rn rfl)) (fun c2 => ?_) (fun c2 => ?_)
    · have h2 := h1.1 c2
      exact jw_vret jM135 jq135_21 h2
    · have h2 := h1.2 c2
      exact jb_throw (k := 0) jM135 jq135_10 rfl (Nat.le_add_left_of_le (by decide)) h2
-- 136 PageLoom.needPage(I)V
theorem jk136_0 {d : Nat} {σ : ib_H} {Q : ib_O → Prop} {l0 : Int} (hF : jb_F σ) (hl0 : jb_r l0)
    (h : (l0 < 0 → Q (.inr 2, ib_cost σ 1 6)) ∧ (¬ (l0 < 0) → (l0 < 24 → Q (.inl none, σ)) ∧ (¬ (l0 < 24) → Q (.inr 2, ib_cost σ 1 6)))) :
    jb_w (d + 6) 136 0 [some (jb_v l0)] [] σ Q := by
  refine jiL0 (p := 1) rfl jM136 jq136_0 ?_
  refine jw_if (p := 4) rfl jM136 jq136_1 (jc_lt hl0 jb_r0) (fun c1 => ?_) (fun c1 => ?_)
  · have h1 := h.1 c1
    exact jb_throw (k := 2) jM136 jq136_10 rfl (Nat.le_add_left_of_le (by decide)) h1
  · have h1 := h.2 c1
    refine jiL0 (p := 5) rfl jM136 jq136_4 ?_
    refine jw_bipush (p := 7) rfl jM136 jq136_5 (by decide) ?_
    refine jw_ic (p := 10) rfl jM136 jq136_7 (jc_lt hl0 (jb_rn rfl)) (fun c2 => ?_) (fun c2 => ?_)
    · have h2 := h1.1 c2
      exact jw_vret jM136 jq136_21 h2
    · have h2 := h1.2 c2
      exact jb_throw (k := 2) jM136 jq136_10 rfl (Nat.le_add_left_of_le (by decide)) h2
-- 137 PageLoom.needNoCrash()V
theorem jk137_0 {d : Nat} {σ : ib_H} {Q : ib_O → Prop}  (hF : jb_F σ) 
    (h : (jb_i σ 2 8 = 0 → Q (.inl none, σ)) ∧ (¬ (jb_i σ 2 8 = 0) → Q (.inr 1, ib_cost σ 1 6))) :
    jb_w (d + 6) 137 0 [some (.ref 2)] [] σ Q := by
  refine jaL0 (p := 1) rfl jM137 jq137_0 ?_
  refine jw_getI (p := 4) (i := 8) rfl jM137 jq137_1 rfl (jo_2 hF) jn_10_8 ?_
  refine jw_if (p := 7) rfl jM137 jq137_4 (jc_eq (jb_r_i _ _ _) jb_r0) (fun c1 => ?_) (fun c1 => ?_)
  · have h1 := h.1 c1
    exact jw_vret jM137 jq137_18 h1
  · have h1 := h.2 c1
    exact jb_throw (k := 1) jM137 jq137_7 rfl (Nat.le_add_left_of_le (by decide)) h1
-- 138 PageLoom.needOpen(I)V
theorem jk138_0 {d : Nat} {σ : ib_H} {Q : ib_O → Prop} {l1 : Int} (hF : jb_F σ) (hl1 : jb_r l1)
    (h : jb_w d 137 0 [some (.ref 2)] [] σ (jb_k (d + 1) 138 1 [some (.ref 2), some (jb_v l1)] [] Q)) :
    jb_w (d + 1) 138 0 [some (.ref 2), some (jb_v l1)] [] σ Q := by
  refine jaL0 (p := 1) rfl jM138 jq138_0 ?_
  refine jw_callV [] jM138 jq138_1 rfl rfl (jo_2 hF) rfl jM137 rfl rfl ?_
  exact h
theorem jk138_4 {d : Nat} {σ : ib_H} {Q : ib_O → Prop} {l1 : Int} (hF : jb_F σ) (hl1 : jb_r l1)
    (h : (0 ≤ l1 ∧ l1 < 4) ∧ ((¬ jb_i σ 58 l1 = 0 → Q (.inl none, σ)) ∧ (¬ (¬ jb_i σ 58 l1 = 0) → Q (.inr 1, ib_cost σ 1 6)))) :
    jb_w (d + 6) 138 4 [some (.ref 2), some (jb_v l1)] [] σ Q := by
  refine jaL0 (p := 5) rfl jM138 jq138_4 ?_
  refine jw_getP (p := 8) (i := 1) (q := 57) rfl jM138 jq138_5 rfl (jo_2 hF) je_10_1 (jp_2_1 hF) ?_
  refine jw_getP (p := 11) (i := 0) (q := 58) rfl jM138 jq138_8 rfl (jo_57 hF) je_6_0 (jp_57_0 hF) ?_
  refine jiL1 (p := 12) rfl jM138 jq138_11 ?_
  obtain ⟨c1, h1⟩ := h
  refine jw_bald (p := 13) rfl jM138 jq138_12 (ja_58 hF) c1.1 c1.2 ?_
  refine jw_if (p := 16) rfl jM138 jq138_13 (jc_ne (jb_r_i _ _ _) jb_r0) (fun c2 => ?_) (fun c2 => ?_)
  · have h2 := h1.1 c2
    exact jw_vret jM138 jq138_27 h2
  · have h2 := h1.2 c2
    exact jb_throw (k := 1) jM138 jq138_16 rfl (Nat.le_add_left_of_le (by decide)) h2
-- 139 PageLoom.needRoomInLog()V
theorem jk139_0 {d : Nat} {σ : ib_H} {Q : ib_O → Prop}  (hF : jb_F σ) 
    (h : (jb_i σ 63 4 < 200 → Q (.inl none, σ)) ∧ (¬ (jb_i σ 63 4 < 200) → Q (.inr 1, ib_cost σ 1 6))) :
    jb_w (d + 6) 139 0 [some (.ref 2)] [] σ Q := by
  refine jaL0 (p := 1) rfl jM139 jq139_0 ?_
  refine jw_getP (p := 4) (i := 2) (q := 63) rfl jM139 jq139_1 rfl (jo_2 hF) je_10_2 (jp_2_2 hF) ?_
  refine jw_getI (p := 7) (i := 4) rfl jM139 jq139_4 rfl (jo_63 hF) jn_2_4 ?_
  refine jw_sipush (p := 10) rfl jM139 jq139_7 (by decide) ?_
  refine jw_ic (p := 13) rfl jM139 jq139_10 (jc_lt (jb_r_i _ _ _) (jb_rn rfl)) (fun c1 => ?_) (fun c1 => ?_)
  · have h1 := h.1 c1
    exact jw_vret jM139 jq139_24 h1
  · have h1 := h.2 c1
    exact jb_throw (k := 1) jM139 jq139_13 rfl (Nat.le_add_left_of_le (by decide)) h1
-- 140 PageLoom.told(I)I
theorem jk140_0 {d : Nat} {σ : ib_H} {Q : ib_O → Prop} {l1 : Int} (hF : jb_F σ) (hl1 : jb_r l1)
    (h : (¬ l1 = (-4) → Q (.inl (some (jb_v l1)), σ)) ∧ (¬ (¬ l1 = (-4)) → jb_w d 141 0 [some (.ref 2)] [] σ (jb_k (d + 1) 140 7 [some (.ref 2), some (jb_v l1)] [] Q))) :
    jb_w (d + 1) 140 0 [some (.ref 2), some (jb_v l1)] [] σ Q := by
  refine jiL1 (p := 1) rfl jM140 jq140_0 ?_
  refine jw_bipush (p := 3) rfl jM140 jq140_1 (by decide) ?_
  refine jw_ic (p := 6) rfl jM140 jq140_3 (jc_ne hl1 (jb_rn rfl)) (fun c1 => ?_) (fun c1 => ?_)
  · have h1 := h.1 c1
    refine jiL1 (p := 11) rfl jM140 jq140_10 ?_
    exact jw_iret jM140 jq140_11 (fun z => absurd z (by decide)) h1
  · have h1 := h.2 c1
    refine jaL0 (p := 7) rfl jM140 jq140_6 ?_
    refine jw_callV [] jM140 jq140_7 rfl rfl (jo_2 hF) rfl jM141 rfl rfl ?_
    exact h1
theorem jk140_10 {d : Nat} {σ : ib_H} {Q : ib_O → Prop} {l1 : Int} (hF : jb_F σ) (hl1 : jb_r l1)
    (h : Q (.inl (some (jb_v l1)), σ)) :
    jb_w d 140 10 [some (.ref 2), some (jb_v l1)] [] σ Q := by
  refine jiL1 (p := 11) rfl jM140 jq140_10 ?_
  exact jw_iret jM140 jq140_11 (fun z => absurd z (by decide)) h
-- 141 PageLoom.fall()V
theorem jk141_0 {d : Nat} {σ : ib_H} {Q : ib_O → Prop}  (hF : jb_F σ) 
    (h : jb_w d 1 0 [some (.ref 66), none] [] (jb_si σ 2 8 1) (jb_k (d + 1) 141 9 [some (.ref 2)] [] Q)) :
    jb_w (d + 1) 141 0 [some (.ref 2)] [] σ Q := by
  refine jaL0 (p := 1) rfl jM141 jq141_0 ?_
  refine jw_iconst (p := 2) rfl jM141 jq141_1 ?_
  refine jw_putI (p := 5) (i := 8) rfl jM141 jq141_2 rfl (jo_2 hF) (Or.inr ⟨jy_10_8, Or.inr rfl⟩) ?_
  refine jaL0 (p := 6) rfl jM141 jq141_5 ?_
  refine jw_getP (p := 9) (i := 3) (q := 66) rfl jM141 jq141_6 rfl (jo_2 hF) je_10_3 (jp_2_3 hF) ?_
  refine jw_callV [] jM141 jq141_9 rfl rfl (jo_66 hF) rfl jM1 rfl rfl ?_
  exact h
theorem jk141_12 {d : Nat} {σ : ib_H} {Q : ib_O → Prop}  (hF : jb_F σ) 
    (h : jb_w d 21 0 [some (.ref 63)] [] σ (jb_k (d + 1) 141 16 [some (.ref 2)] [] Q)) :
    jb_w (d + 1) 141 12 [some (.ref 2)] [] σ Q := by
  refine jaL0 (p := 13) rfl jM141 jq141_12 ?_
  refine jw_getP (p := 16) (i := 2) (q := 63) rfl jM141 jq141_13 rfl (jo_2 hF) je_10_2 (jp_2_2 hF) ?_
  refine jw_callV [] jM141 jq141_16 rfl rfl (jo_63 hF) rfl jM21 rfl rfl ?_
  exact h
theorem jk141_19 {d : Nat} {σ : ib_H} {Q : ib_O → Prop}  (hF : jb_F σ) 
    (h : jb_w d 64 0 [some (.ref 57), none] [] σ (jb_k (d + 1) 141 23 [some (.ref 2)] [] Q)) :
    jb_w (d + 1) 141 19 [some (.ref 2)] [] σ Q := by
  refine jaL0 (p := 20) rfl jM141 jq141_19 ?_
  refine jw_getP (p := 23) (i := 1) (q := 57) rfl jM141 jq141_20 rfl (jo_2 hF) je_10_1 (jp_2_1 hF) ?_
  refine jw_callV [] jM141 jq141_23 rfl rfl (jo_57 hF) rfl jM64 rfl rfl ?_
  exact h
theorem jk141_26 {d : Nat} {σ : ib_H} {Q : ib_O → Prop}  (hF : jb_F σ) 
    (h : Q (.inl none, σ)) :
    jb_w d 141 26 [some (.ref 2)] [] σ Q := by
  exact jw_vret jM141 jq141_26 h
-- 142 PageLoom.lock(II)I
theorem jk142_0 {d : Nat} {σ : ib_H} {Q : ib_O → Prop} {l1 : Int} {l2 : Int} (hF : jb_F σ) (hl1 : jb_r l1) (hl2 : jb_r l2)
    (h : (0 ≤ l1 ∧ l1 < 4) ∧ (jb_w d 142 12 [some (.ref 2), some (jb_v l1), some (jb_v l2), some (jb_v 0), none, none] [] (jb_si σ 61 l1 (-1)) Q)) :
    jb_w d 142 0 [some (.ref 2), some (jb_v l1), some (jb_v l2), none, none, none] [] σ Q := by
  refine jaL0 (p := 1) rfl jM142 jq142_0 ?_
  refine jw_getP (p := 4) (i := 1) (q := 57) rfl jM142 jq142_1 rfl (jo_2 hF) je_10_1 (jp_2_1 hF) ?_
  refine jw_getP (p := 7) (i := 3) (q := 61) rfl jM142 jq142_4 rfl (jo_57 hF) je_6_3 (jp_57_3 hF) ?_
  refine jiL1 (p := 8) rfl jM142 jq142_7 ?_
  refine jw_iconst (p := 9) rfl jM142 jq142_8 ?_
  obtain ⟨c1, h1⟩ := h
  refine jw_iast (p := 10) rfl jM142 jq142_9 (ja_61 hF) c1.1 c1.2 ?_
  refine jw_iconst (p := 11) rfl jM142 jq142_10 ?_
  refine jiS3 (p := 12) rfl jM142 jq142_11 ?_
  exact h1
theorem jk142_12 {d : Nat} {σ : ib_H} {Q : ib_O → Prop} {l1 : Int} {l2 : Int} {l3 : Int} (hF : jb_F σ) (hl1 : jb_r l1) (hl2 : jb_r l2) (hl3 : jb_r l3)
    (h : (4 ≤ l3 → Q (.inl (some (jb_v (-2))), σ)) ∧ (¬ (4 ≤ l3) → (0 ≤ l2 ∧ l2 < 32) ∧ ((jb_i σ 62 l2 = (-1) → Q (.inl (some (jb_v 0)), jb_si σ 62 l2 l1)) ∧ (¬ (jb_i σ 62 l2 = (-1)) → (¬ jb_i σ 62 l2 = l1 → (0 ≤ l1 ∧ l1 < 4) ∧ (jb_w d 66 0 [some (.ref 57), some (jb_v l1), none, none, none] [] (jb_si σ 61 l1 (jb_i σ 62 l2)) (jb_k (d + 1) 142 68 [some (.ref 2), some (jb_v l1), some (jb_v l2), some (jb_v l3), some (jb_v (jb_i σ 62 l2)), none] [] Q))) ∧ (¬ (¬ jb_i σ 62 l2 = l1) → Q (.inl (some (jb_v 0)), jb_si σ 62 l2 l1)))))) :
    jb_w (d + 1) 142 12 [some (.ref 2), some (jb_v l1), some (jb_v l2), some (jb_v l3), none, none] [] σ Q := by
  refine jiL3 (p := 13) rfl jM142 jq142_12 ?_
  refine jw_iconst (p := 14) rfl jM142 jq142_13 ?_
  refine jw_ic (p := 17) rfl jM142 jq142_14 (jc_ge hl3 (jb_rn rfl)) (fun c1 => ?_) (fun c1 => ?_)
  · have h1 := h.1 c1
    refine jw_bipush (p := 123) rfl jM142 jq142_121 (by decide) ?_
    exact jw_iret jM142 jq142_123 (fun z => absurd z (by decide)) h1
  · have h1 := h.2 c1
    refine jaL0 (p := 18) rfl jM142 jq142_17 ?_
    refine jw_getP (p := 21) (i := 1) (q := 57) rfl jM142 jq142_18 rfl (jo_2 hF) je_10_1 (jp_2_1 hF) ?_
    refine jw_getP (p := 24) (i := 4) (q := 62) rfl jM142 jq142_21 rfl (jo_57 hF) je_6_4 (jp_57_4 hF) ?_
    refine jiL2 (p := 25) rfl jM142 jq142_24 ?_
    obtain ⟨c2, h2⟩ := h1
    refine jw_iald (p := 26) rfl jM142 jq142_25 (ja_62 hF) c2.1 c2.2 ?_
    refine jiS4 (p := 28) rfl jM142 jq142_26 ?_
    refine jiL4 (p := 30) rfl jM142 jq142_28 ?_
    refine jw_iconst (p := 31) rfl jM142 jq142_30 ?_
    refine jw_ic (p := 34) rfl jM142 jq142_31 (jc_eq (jb_r_i _ _ _) (jb_rn rfl)) (fun c3 => ?_) (fun c3 => ?_)
    · have h3 := h2.1 c3
      refine jaL0 (p := 41) rfl jM142 jq142_40 ?_
      refine jw_getP (p := 44) (i := 1) (q := 57) rfl jM142 jq142_41 rfl (jo_2 hF) je_10_1 (jp_2_1 hF) ?_
      refine jw_getP (p := 47) (i := 4) (q := 62) rfl jM142 jq142_44 rfl (jo_57 hF) je_6_4 (jp_57_4 hF) ?_
      refine jiL2 (p := 48) rfl jM142 jq142_47 ?_
      refine jiL1 (p := 49) rfl jM142 jq142_48 ?_
      refine jw_iast (p := 50) rfl jM142 jq142_49 (ja_62 hF) c2.1 c2.2 ?_
      refine jw_iconst (p := 51) rfl jM142 jq142_50 ?_
      exact jw_iret jM142 jq142_51 (fun z => absurd z (by decide)) h3
    · have h3 := h2.2 c3
      refine jiL4 (p := 36) rfl jM142 jq142_34 ?_
      refine jiL1 (p := 37) rfl jM142 jq142_36 ?_
      refine jw_ic (p := 40) rfl jM142 jq142_37 (jc_ne (jb_r_i _ _ _) hl1) (fun c4 => ?_) (fun c4 => ?_)
      · have h4 := h3.1 c4
        refine jaL0 (p := 53) rfl jM142 jq142_52 ?_
        refine jw_getP (p := 56) (i := 1) (q := 57) rfl jM142 jq142_53 rfl (jo_2 hF) je_10_1 (jp_2_1 hF) ?_
        refine jw_getP (p := 59) (i := 3) (q := 61) rfl jM142 jq142_56 rfl (jo_57 hF) je_6_3 (jp_57_3 hF) ?_
        refine jiL1 (p := 60) rfl jM142 jq142_59 ?_
        refine jiL4 (p := 62) rfl jM142 jq142_60 ?_
        obtain ⟨c5, h5⟩ := h4
        refine jw_iast (p := 63) rfl jM142 jq142_62 (ja_61 hF) c5.1 c5.2 ?_
        refine jaL0 (p := 64) rfl jM142 jq142_63 ?_
        refine jw_getP (p := 67) (i := 1) (q := 57) rfl jM142 jq142_64 rfl (jo_2 hF) je_10_1 (jp_2_1 hF) ?_
        refine jiL1 (p := 68) rfl jM142 jq142_67 ?_
        refine jw_callV [(jb_v l1)] jM142 jq142_68 rfl rfl (jo_57 hF) rfl jM66 rfl rfl ?_
        exact h5
      · have h4 := h3.2 c4
        refine jaL0 (p := 41) rfl jM142 jq142_40 ?_
        refine jw_getP (p := 44) (i := 1) (q := 57) rfl jM142 jq142_41 rfl (jo_2 hF) je_10_1 (jp_2_1 hF) ?_
        refine jw_getP (p := 47) (i := 4) (q := 62) rfl jM142 jq142_44 rfl (jo_57 hF) je_6_4 (jp_57_4 hF) ?_
        refine jiL2 (p := 48) rfl jM142 jq142_47 ?_
        refine jiL1 (p := 49) rfl jM142 jq142_48 ?_
        refine jw_iast (p := 50) rfl jM142 jq142_49 (ja_62 hF) c2.1 c2.2 ?_
        refine jw_iconst (p := 51) rfl jM142 jq142_50 ?_
        exact jw_iret jM142 jq142_51 (fun z => absurd z (by decide)) h4
theorem jk142_71 {d : Nat} {σ : ib_H} {Q : ib_O → Prop} {l1 : Int} {l2 : Int} {l3 : Int} {l4 : Int} {s0 : Int} (hF : jb_F σ) (hl1 : jb_r l1) (hl2 : jb_r l2) (hl3 : jb_r l3) (hl4 : jb_r l4) (hs0 : jb_r s0)
    (h : (¬ s0 = (-1) → jb_w d 90 0 [some (.ref 81), some (jb_v s0), none] [] σ (jb_k (d + 1) 142 88 [some (.ref 2), some (jb_v l1), some (jb_v l2), some (jb_v l3), some (jb_v l4), some (jb_v s0)] [] Q)) ∧ (¬ (¬ s0 = (-1)) → Q (.inl (some (jb_v (-2))), σ))) :
    jb_w (d + 1) 142 71 [some (.ref 2), some (jb_v l1), some (jb_v l2), some (jb_v l3), some (jb_v l4), none] [(jb_v s0)] σ Q := by
  refine jiS5 (p := 73) rfl jM142 jq142_71 ?_
  refine jiL5 (p := 75) rfl jM142 jq142_73 ?_
  refine jw_iconst (p := 76) rfl jM142 jq142_75 ?_
  refine jw_ic (p := 79) rfl jM142 jq142_76 (jc_ne hs0 (jb_rn rfl)) (fun c1 => ?_) (fun c1 => ?_)
  · have h1 := h.1 c1
    refine jaL0 (p := 83) rfl jM142 jq142_82 ?_
    refine jw_getP (p := 86) (i := 5) (q := 81) rfl jM142 jq142_83 rfl (jo_2 hF) je_10_5 (jp_2_5 hF) ?_
    refine jiL5 (p := 88) rfl jM142 jq142_86 ?_
    refine jw_callV [(jb_v s0)] jM142 jq142_88 rfl rfl (jo_81 hF) rfl jM90 rfl rfl ?_
    exact h1
  · have h1 := h.2 c1
    refine jw_bipush (p := 81) rfl jM142 jq142_79 (by decide) ?_
    exact jw_iret jM142 jq142_81 (fun z => absurd z (by decide)) h1
theorem jk142_91 {d : Nat} {σ : ib_H} {Q : ib_O → Prop} {l1 : Int} {l2 : Int} {l3 : Int} {l4 : Int} {l5 : Int} (hF : jb_F σ) (hl1 : jb_r l1) (hl2 : jb_r l2) (hl3 : jb_r l3) (hl4 : jb_r l4) (hl5 : jb_r l5)
    (h : jb_w d 92 0 [some (.ref 81), some (jb_v 0), some (jb_v 1), none, none, none, none, none, none] [] σ (jb_k (d + 1) 142 97 [some (.ref 2), some (jb_v l1), some (jb_v l2), some (jb_v l3), some (jb_v l4), some (jb_v l5)] [] Q)) :
    jb_w (d + 1) 142 91 [some (.ref 2), some (jb_v l1), some (jb_v l2), some (jb_v l3), some (jb_v l4), some (jb_v l5)] [] σ Q := by
  refine jaL0 (p := 92) rfl jM142 jq142_91 ?_
  refine jw_getP (p := 95) (i := 5) (q := 81) rfl jM142 jq142_92 rfl (jo_2 hF) je_10_5 (jp_2_5 hF) ?_
  refine jw_iconst (p := 96) rfl jM142 jq142_95 ?_
  refine jw_iconst (p := 97) rfl jM142 jq142_96 ?_
  refine jw_callV [(jb_v 0), (jb_v 1)] jM142 jq142_97 rfl rfl (jo_81 hF) rfl jM92 rfl rfl ?_
  exact h
theorem jk142_100 {d : Nat} {σ : ib_H} {Q : ib_O → Prop} {l1 : Int} {l2 : Int} {l3 : Int} {l4 : Int} {l5 : Int} {s0 : Int} (hF : jb_F σ) (hl1 : jb_r l1) (hl2 : jb_r l2) (hl3 : jb_r l3) (hl4 : jb_r l4) (hl5 : jb_r l5) (hs0 : jb_r s0)
    (h : (¬ s0 = 0 → (¬ l5 = l1 → jb_w d 142 12 [some (.ref 2), some (jb_v l1), some (jb_v l2), some (jb_v (l3 + 1)), some (jb_v l4), some (jb_v l5)] [] σ Q) ∧ (¬ (¬ l5 = l1) → Q (.inl (some (jb_v (-3))), σ))) ∧ (¬ (¬ s0 = 0) → Q (.inl (some (jb_v (-4))), σ))) :
    jb_w d 142 100 [some (.ref 2), some (jb_v l1), some (jb_v l2), some (jb_v l3), some (jb_v l4), some (jb_v l5)] [(jb_v s0)] σ Q := by
  refine jw_if (p := 103) rfl jM142 jq142_100 (jc_ne hs0 jb_r0) (fun c1 => ?_) (fun c1 => ?_)
  · have h1 := h.1 c1
    refine jiL5 (p := 108) rfl jM142 jq142_106 ?_
    refine jiL1 (p := 109) rfl jM142 jq142_108 ?_
    refine jw_ic (p := 112) rfl jM142 jq142_109 (jc_ne hl5 hl1) (fun c2 => ?_) (fun c2 => ?_)
    · have h2 := h1.1 c2
      refine jiI3 (p := 118) rfl jM142 jq142_115 ?_
      refine jw_goto jM142 jq142_118 ?_
      exact h2
    · have h2 := h1.2 c2
      refine jw_bipush (p := 114) rfl jM142 jq142_112 (by decide) ?_
      exact jw_iret jM142 jq142_114 (fun z => absurd z (by decide)) h2
  · have h1 := h.2 c1
    refine jw_bipush (p := 105) rfl jM142 jq142_103 (by decide) ?_
    exact jw_iret jM142 jq142_105 (fun z => absurd z (by decide)) h1
theorem jk142_12_2 {d : Nat} {σ : ib_H} {Q : ib_O → Prop} {l1 : Int} {l2 : Int} {l3 : Int} {l4 : Int} {l5 : Int} (hF : jb_F σ) (hl1 : jb_r l1) (hl2 : jb_r l2) (hl3 : jb_r l3) (hl4 : jb_r l4) (hl5 : jb_r l5)
    (h : (4 ≤ l3 → Q (.inl (some (jb_v (-2))), σ)) ∧ (¬ (4 ≤ l3) → (0 ≤ l2 ∧ l2 < 32) ∧ ((jb_i σ 62 l2 = (-1) → Q (.inl (some (jb_v 0)), jb_si σ 62 l2 l1)) ∧ (¬ (jb_i σ 62 l2 = (-1)) → (¬ jb_i σ 62 l2 = l1 → (0 ≤ l1 ∧ l1 < 4) ∧ (jb_w d 66 0 [some (.ref 57), some (jb_v l1), none, none, none] [] (jb_si σ 61 l1 (jb_i σ 62 l2)) (jb_k (d + 1) 142 68 [some (.ref 2), some (jb_v l1), some (jb_v l2), some (jb_v l3), some (jb_v (jb_i σ 62 l2)), some (jb_v l5)] [] Q))) ∧ (¬ (¬ jb_i σ 62 l2 = l1) → Q (.inl (some (jb_v 0)), jb_si σ 62 l2 l1)))))) :
    jb_w (d + 1) 142 12 [some (.ref 2), some (jb_v l1), some (jb_v l2), some (jb_v l3), some (jb_v l4), some (jb_v l5)] [] σ Q := by
  refine jiL3 (p := 13) rfl jM142 jq142_12 ?_
  refine jw_iconst (p := 14) rfl jM142 jq142_13 ?_
  refine jw_ic (p := 17) rfl jM142 jq142_14 (jc_ge hl3 (jb_rn rfl)) (fun c1 => ?_) (fun c1 => ?_)
  · have h1 := h.1 c1
    refine jw_bipush (p := 123) rfl jM142 jq142_121 (by decide) ?_
    exact jw_iret jM142 jq142_123 (fun z => absurd z (by decide)) h1
  · have h1 := h.2 c1
    refine jaL0 (p := 18) rfl jM142 jq142_17 ?_
    refine jw_getP (p := 21) (i := 1) (q := 57) rfl jM142 jq142_18 rfl (jo_2 hF) je_10_1 (jp_2_1 hF) ?_
    refine jw_getP (p := 24) (i := 4) (q := 62) rfl jM142 jq142_21 rfl (jo_57 hF) je_6_4 (jp_57_4 hF) ?_
    refine jiL2 (p := 25) rfl jM142 jq142_24 ?_
    obtain ⟨c2, h2⟩ := h1
    refine jw_iald (p := 26) rfl jM142 jq142_25 (ja_62 hF) c2.1 c2.2 ?_
    refine jiS4 (p := 28) rfl jM142 jq142_26 ?_
    refine jiL4 (p := 30) rfl jM142 jq142_28 ?_
    refine jw_iconst (p := 31) rfl jM142 jq142_30 ?_
    refine jw_ic (p := 34) rfl jM142 jq142_31 (jc_eq (jb_r_i _ _ _) (jb_rn rfl)) (fun c3 => ?_) (fun c3 => ?_)
    · have h3 := h2.1 c3
      refine jaL0 (p := 41) rfl jM142 jq142_40 ?_
      refine jw_getP (p := 44) (i := 1) (q := 57) rfl jM142 jq142_41 rfl (jo_2 hF) je_10_1 (jp_2_1 hF) ?_
      refine jw_getP (p := 47) (i := 4) (q := 62) rfl jM142 jq142_44 rfl (jo_57 hF) je_6_4 (jp_57_4 hF) ?_
      refine jiL2 (p := 48) rfl jM142 jq142_47 ?_
      refine jiL1 (p := 49) rfl jM142 jq142_48 ?_
      refine jw_iast (p := 50) rfl jM142 jq142_49 (ja_62 hF) c2.1 c2.2 ?_
      refine jw_iconst (p := 51) rfl jM142 jq142_50 ?_
      exact jw_iret jM142 jq142_51 (fun z => absurd z (by decide)) h3
    · have h3 := h2.2 c3
      refine jiL4 (p := 36) rfl jM142 jq142_34 ?_
      refine jiL1 (p := 37) rfl jM142 jq142_36 ?_
      refine jw_ic (p := 40) rfl jM142 jq142_37 (jc_ne (jb_r_i _ _ _) hl1) (fun c4 => ?_) (fun c4 => ?_)
      · have h4 := h3.1 c4
        refine jaL0 (p := 53) rfl jM142 jq142_52 ?_
        refine jw_getP (p := 56) (i := 1) (q := 57) rfl jM142 jq142_53 rfl (jo_2 hF) je_10_1 (jp_2_1 hF) ?_
        refine jw_getP (p := 59) (i := 3) (q := 61) rfl jM142 jq142_56 rfl (jo_57 hF) je_6_3 (jp_57_3 hF) ?_
        refine jiL1 (p := 60) rfl jM142 jq142_59 ?_
        refine jiL4 (p := 62) rfl jM142 jq142_60 ?_
        obtain ⟨c5, h5⟩ := h4
        refine jw_iast (p := 63) rfl jM142 jq142_62 (ja_61 hF) c5.1 c5.2 ?_
        refine jaL0 (p := 64) rfl jM142 jq142_63 ?_
        refine jw_getP (p := 67) (i := 1) (q := 57) rfl jM142 jq142_64 rfl (jo_2 hF) je_10_1 (jp_2_1 hF) ?_
        refine jiL1 (p := 68) rfl jM142 jq142_67 ?_
        refine jw_callV [(jb_v l1)] jM142 jq142_68 rfl rfl (jo_57 hF) rfl jM66 rfl rfl ?_
        exact h5
      · have h4 := h3.2 c4
        refine jaL0 (p := 41) rfl jM142 jq142_40 ?_
        refine jw_getP (p := 44) (i := 1) (q := 57) rfl jM142 jq142_41 rfl (jo_2 hF) je_10_1 (jp_2_1 hF) ?_
        refine jw_getP (p := 47) (i := 4) (q := 62) rfl jM142 jq142_44 rfl (jo_57 hF) je_6_4 (jp_57_4 hF) ?_
        refine jiL2 (p := 48) rfl jM142 jq142_47 ?_
        refine jiL1 (p := 49) rfl jM142 jq142_48 ?_
        refine jw_iast (p := 50) rfl jM142 jq142_49 (ja_62 hF) c2.1 c2.2 ?_
        refine jw_iconst (p := 51) rfl jM142 jq142_50 ?_
        exact jw_iret jM142 jq142_51 (fun z => absurd z (by decide)) h4
theorem jk142_71_2 {d : Nat} {σ : ib_H} {Q : ib_O → Prop} {l1 : Int} {l2 : Int} {l3 : Int} {l4 : Int} {l5 : Int} {s0 : Int} (hF : jb_F σ) (hl1 : jb_r l1) (hl2 : jb_r l2) (hl3 : jb_r l3) (hl4 : jb_r l4) (hl5 : jb_r l5) (hs0 : jb_r s0)
    (h : (¬ s0 = (-1) → jb_w d 90 0 [some (.ref 81), some (jb_v s0), none] [] σ (jb_k (d + 1) 142 88 [some (.ref 2), some (jb_v l1), some (jb_v l2), some (jb_v l3), some (jb_v l4), some (jb_v s0)] [] Q)) ∧ (¬ (¬ s0 = (-1)) → Q (.inl (some (jb_v (-2))), σ))) :
    jb_w (d + 1) 142 71 [some (.ref 2), some (jb_v l1), some (jb_v l2), some (jb_v l3), some (jb_v l4), some (jb_v l5)] [(jb_v s0)] σ Q := by
  refine jiS5 (p := 73) rfl jM142 jq142_71 ?_
  refine jiL5 (p := 75) rfl jM142 jq142_73 ?_
  refine jw_iconst (p := 76) rfl jM142 jq142_75 ?_
  refine jw_ic (p := 79) rfl jM142 jq142_76 (jc_ne hs0 (jb_rn rfl)) (fun c1 => ?_) (fun c1 => ?_)
  · have h1 := h.1 c1
    refine jaL0 (p := 83) rfl jM142 jq142_82 ?_
    refine jw_getP (p := 86) (i := 5) (q := 81) rfl jM142 jq142_83 rfl (jo_2 hF) je_10_5 (jp_2_5 hF) ?_
    refine jiL5 (p := 88) rfl jM142 jq142_86 ?_
    refine jw_callV [(jb_v s0)] jM142 jq142_88 rfl rfl (jo_81 hF) rfl jM90 rfl rfl ?_
    exact h1
  · have h1 := h.2 c1
    refine jw_bipush (p := 81) rfl jM142 jq142_79 (by decide) ?_
    exact jw_iret jM142 jq142_81 (fun z => absurd z (by decide)) h1
-- 143 PageLoom.splitFor(I)I
theorem jk143_0 {d : Nat} {σ : ib_H} {Q : ib_O → Prop} {l1 : Int} (hF : jb_F σ) (hl1 : jb_r l1)
    (h : jb_w d 143 2 [some (.ref 2), some (jb_v l1), some (jb_v 0), none] [] σ Q) :
    jb_w d 143 0 [some (.ref 2), some (jb_v l1), none, none] [] σ Q := by
  refine jw_iconst (p := 1) rfl jM143 jq143_0 ?_
  refine jiS2 (p := 2) rfl jM143 jq143_1 ?_
  exact h
theorem jk143_2 {d : Nat} {σ : ib_H} {Q : ib_O → Prop} {l1 : Int} {l2 : Int} (hF : jb_F σ) (hl1 : jb_r l1) (hl2 : jb_r l2)
    (h : (24 < l2 → Q (.inl (some (jb_v (-5))), σ)) ∧ (¬ (24 < l2) → jb_w d 71 0 [some (.ref 79), some (jb_v l1), none, none, none] [] σ (jb_k (d + 1) 143 13 [some (.ref 2), some (jb_v l1), some (jb_v l2), none] [] Q))) :
    jb_w (d + 1) 143 2 [some (.ref 2), some (jb_v l1), some (jb_v l2), none] [] σ Q := by
  refine jiL2 (p := 3) rfl jM143 jq143_2 ?_
  refine jw_bipush (p := 5) rfl jM143 jq143_3 (by decide) ?_
  refine jw_ic (p := 8) rfl jM143 jq143_5 (jc_gt hl2 (jb_rn rfl)) (fun c1 => ?_) (fun c1 => ?_)
  · have h1 := h.1 c1
    refine jw_bipush (p := 79) rfl jM143 jq143_77 (by decide) ?_
    exact jw_iret jM143 jq143_79 (fun z => absurd z (by decide)) h1
  · have h1 := h.2 c1
    refine jaL0 (p := 9) rfl jM143 jq143_8 ?_
    refine jw_getP (p := 12) (i := 4) (q := 79) rfl jM143 jq143_9 rfl (jo_2 hF) je_10_4 (jp_2_4 hF) ?_
    refine jiL1 (p := 13) rfl jM143 jq143_12 ?_
    refine jw_callV [(jb_v l1)] jM143 jq143_13 rfl rfl (jo_79 hF) rfl jM71 rfl rfl ?_
    exact h1
theorem jk143_16 {d : Nat} {σ : ib_H} {Q : ib_O → Prop} {l1 : Int} {l2 : Int} {s0 : Int} (hF : jb_F σ) (hl1 : jb_r l1) (hl2 : jb_r l2) (hs0 : jb_r s0)
    (h : (¬ s0 = 0 → jb_w d 73 0 [some (.ref 79), some (jb_v l1), none] [] σ (jb_k (d + 1) 143 27 [some (.ref 2), some (jb_v l1), some (jb_v l2), none] [] Q)) ∧ (¬ (¬ s0 = 0) → Q (.inl (some (jb_v (-4))), σ))) :
    jb_w (d + 1) 143 16 [some (.ref 2), some (jb_v l1), some (jb_v l2), none] [(jb_v s0)] σ Q := by
  refine jw_if (p := 19) rfl jM143 jq143_16 (jc_ne hs0 jb_r0) (fun c1 => ?_) (fun c1 => ?_)
  · have h1 := h.1 c1
    refine jaL0 (p := 23) rfl jM143 jq143_22 ?_
    refine jw_getP (p := 26) (i := 4) (q := 79) rfl jM143 jq143_23 rfl (jo_2 hF) je_10_4 (jp_2_4 hF) ?_
    refine jiL1 (p := 27) rfl jM143 jq143_26 ?_
    refine jw_callV [(jb_v l1)] jM143 jq143_27 rfl rfl (jo_79 hF) rfl jM73 rfl rfl ?_
    exact h1
  · have h1 := h.2 c1
    refine jw_bipush (p := 21) rfl jM143 jq143_19 (by decide) ?_
    exact jw_iret jM143 jq143_21 (fun z => absurd z (by decide)) h1
theorem jk143_30 {d : Nat} {σ : ib_H} {Q : ib_O → Prop} {l1 : Int} {l2 : Int} {s0 : Int} (hF : jb_F σ) (hl1 : jb_r l1) (hl2 : jb_r l2) (hs0 : jb_r s0)
    (h : (¬ s0 = 0 → jb_w d 74 0 [some (.ref 79), none, none, none] [] σ (jb_k (d + 1) 143 39 [some (.ref 2), some (jb_v l1), some (jb_v l2), none] [] Q)) ∧ (¬ (¬ s0 = 0) → Q (.inl (some (jb_v 0)), σ))) :
    jb_w (d + 1) 143 30 [some (.ref 2), some (jb_v l1), some (jb_v l2), none] [(jb_v s0)] σ Q := by
  refine jw_if (p := 33) rfl jM143 jq143_30 (jc_ne hs0 jb_r0) (fun c1 => ?_) (fun c1 => ?_)
  · have h1 := h.1 c1
    refine jaL0 (p := 36) rfl jM143 jq143_35 ?_
    refine jw_getP (p := 39) (i := 4) (q := 79) rfl jM143 jq143_36 rfl (jo_2 hF) je_10_4 (jp_2_4 hF) ?_
    refine jw_callV [] jM143 jq143_39 rfl rfl (jo_79 hF) rfl jM74 rfl rfl ?_
    exact h1
  · have h1 := h.2 c1
    refine jw_iconst (p := 34) rfl jM143 jq143_33 ?_
    exact jw_iret jM143 jq143_34 (fun z => absurd z (by decide)) h1
theorem jk143_42 {d : Nat} {σ : ib_H} {Q : ib_O → Prop} {l1 : Int} {l2 : Int} {s0 : Int} (hF : jb_F σ) (hl1 : jb_r l1) (hl2 : jb_r l2) (hs0 : jb_r s0)
    (h : jb_w d 76 0 [some (.ref 79), some (jb_v s0), none] [] σ (jb_k (d + 1) 143 48 [some (.ref 2), some (jb_v l1), some (jb_v l2), some (jb_v s0)] [] Q)) :
    jb_w (d + 1) 143 42 [some (.ref 2), some (jb_v l1), some (jb_v l2), none] [(jb_v s0)] σ Q := by
  refine jiS3 (p := 43) rfl jM143 jq143_42 ?_
  refine jaL0 (p := 44) rfl jM143 jq143_43 ?_
  refine jw_getP (p := 47) (i := 4) (q := 79) rfl jM143 jq143_44 rfl (jo_2 hF) je_10_4 (jp_2_4 hF) ?_
  refine jiL3 (p := 48) rfl jM143 jq143_47 ?_
  refine jw_callV [(jb_v s0)] jM143 jq143_48 rfl rfl (jo_79 hF) rfl jM76 rfl rfl ?_
  exact h
theorem jk143_51 {d : Nat} {σ : ib_H} {Q : ib_O → Prop} {l1 : Int} {l2 : Int} {l3 : Int} {s0 : Int} (hF : jb_F σ) (hl1 : jb_r l1) (hl2 : jb_r l2) (hl3 : jb_r l3) (hs0 : jb_r s0)
    (h : (¬ s0 = 0 → jb_w d 77 0 [some (.ref 79), some (jb_v l3), none, none] [] σ (jb_k (d + 1) 143 62 [some (.ref 2), some (jb_v l1), some (jb_v l2), some (jb_v l3)] [] Q)) ∧ (¬ (¬ s0 = 0) → Q (.inl (some (jb_v (-5))), σ))) :
    jb_w (d + 1) 143 51 [some (.ref 2), some (jb_v l1), some (jb_v l2), some (jb_v l3)] [(jb_v s0)] σ Q := by
  refine jw_if (p := 54) rfl jM143 jq143_51 (jc_ne hs0 jb_r0) (fun c1 => ?_) (fun c1 => ?_)
  · have h1 := h.1 c1
    refine jaL0 (p := 58) rfl jM143 jq143_57 ?_
    refine jw_getP (p := 61) (i := 4) (q := 79) rfl jM143 jq143_58 rfl (jo_2 hF) je_10_4 (jp_2_4 hF) ?_
    refine jiL3 (p := 62) rfl jM143 jq143_61 ?_
    refine jw_callV [(jb_v l3)] jM143 jq143_62 rfl rfl (jo_79 hF) rfl jM77 rfl rfl ?_
    exact h1
  · have h1 := h.2 c1
    refine jw_bipush (p := 56) rfl jM143 jq143_54 (by decide) ?_
    exact jw_iret jM143 jq143_56 (fun z => absurd z (by decide)) h1
theorem jk143_65 {d : Nat} {σ : ib_H} {Q : ib_O → Prop} {l1 : Int} {l2 : Int} {l3 : Int} {s0 : Int} (hF : jb_F σ) (hl1 : jb_r l1) (hl2 : jb_r l2) (hl3 : jb_r l3) (hs0 : jb_r s0)
    (h : (¬ s0 = 0 → jb_w d 143 2 [some (.ref 2), some (jb_v l1), some (jb_v (l2 + 1)), some (jb_v l3)] [] σ Q) ∧ (¬ (¬ s0 = 0) → Q (.inl (some (jb_v (-4))), σ))) :
    jb_w d 143 65 [some (.ref 2), some (jb_v l1), some (jb_v l2), some (jb_v l3)] [(jb_v s0)] σ Q := by
  refine jw_if (p := 68) rfl jM143 jq143_65 (jc_ne hs0 jb_r0) (fun c1 => ?_) (fun c1 => ?_)
  · have h1 := h.1 c1
    refine jiI2 (p := 74) rfl jM143 jq143_71 ?_
    refine jw_goto jM143 jq143_74 ?_
    exact h1
  · have h1 := h.2 c1
    refine jw_bipush (p := 70) rfl jM143 jq143_68 (by decide) ?_
    exact jw_iret jM143 jq143_70 (fun z => absurd z (by decide)) h1
theorem jk143_2_2 {d : Nat} {σ : ib_H} {Q : ib_O → Prop} {l1 : Int} {l2 : Int} {l3 : Int} (hF : jb_F σ) (hl1 : jb_r l1) (hl2 : jb_r l2) (hl3 : jb_r l3)
    (h : (24 < l2 → Q (.inl (some (jb_v (-5))), σ)) ∧ (¬ (24 < l2) → jb_w d 71 0 [some (.ref 79), some (jb_v l1), none, none, none] [] σ (jb_k (d + 1) 143 13 [some (.ref 2), some (jb_v l1), some (jb_v l2), some (jb_v l3)] [] Q))) :
    jb_w (d + 1) 143 2 [some (.ref 2), some (jb_v l1), some (jb_v l2), some (jb_v l3)] [] σ Q := by
  refine jiL2 (p := 3) rfl jM143 jq143_2 ?_
  refine jw_bipush (p := 5) rfl jM143 jq143_3 (by decide) ?_
  refine jw_ic (p := 8) rfl jM143 jq143_5 (jc_gt hl2 (jb_rn rfl)) (fun c1 => ?_) (fun c1 => ?_)
  · have h1 := h.1 c1
    refine jw_bipush (p := 79) rfl jM143 jq143_77 (by decide) ?_
    exact jw_iret jM143 jq143_79 (fun z => absurd z (by decide)) h1
  · have h1 := h.2 c1
    refine jaL0 (p := 9) rfl jM143 jq143_8 ?_
    refine jw_getP (p := 12) (i := 4) (q := 79) rfl jM143 jq143_9 rfl (jo_2 hF) je_10_4 (jp_2_4 hF) ?_
    refine jiL1 (p := 13) rfl jM143 jq143_12 ?_
    refine jw_callV [(jb_v l1)] jM143 jq143_13 rfl rfl (jo_79 hF) rfl jM71 rfl rfl ?_
    exact h1
theorem jk143_16_2 {d : Nat} {σ : ib_H} {Q : ib_O → Prop} {l1 : Int} {l2 : Int} {l3 : Int} {s0 : Int} (hF : jb_F σ) (hl1 : jb_r l1) (hl2 : jb_r l2) (hl3 : jb_r l3) (hs0 : jb_r s0)
    (h : (¬ s0 = 0 → jb_w d 73 0 [some (.ref 79), some (jb_v l1), none] [] σ (jb_k (d + 1) 143 27 [some (.ref 2), some (jb_v l1), some (jb_v l2), some (jb_v l3)] [] Q)) ∧ (¬ (¬ s0 = 0) → Q (.inl (some (jb_v (-4))), σ))) :
    jb_w (d + 1) 143 16 [some (.ref 2), some (jb_v l1), some (jb_v l2), some (jb_v l3)] [(jb_v s0)] σ Q := by
  refine jw_if (p := 19) rfl jM143 jq143_16 (jc_ne hs0 jb_r0) (fun c1 => ?_) (fun c1 => ?_)
  · have h1 := h.1 c1
    refine jaL0 (p := 23) rfl jM143 jq143_22 ?_
    refine jw_getP (p := 26) (i := 4) (q := 79) rfl jM143 jq143_23 rfl (jo_2 hF) je_10_4 (jp_2_4 hF) ?_
    refine jiL1 (p := 27) rfl jM143 jq143_26 ?_
    refine jw_callV [(jb_v l1)] jM143 jq143_27 rfl rfl (jo_79 hF) rfl jM73 rfl rfl ?_
    exact h1
  · have h1 := h.2 c1
    refine jw_bipush (p := 21) rfl jM143 jq143_19 (by decide) ?_
    exact jw_iret jM143 jq143_21 (fun z => absurd z (by decide)) h1
theorem jk143_30_2 {d : Nat} {σ : ib_H} {Q : ib_O → Prop} {l1 : Int} {l2 : Int} {l3 : Int} {s0 : Int} (hF : jb_F σ) (hl1 : jb_r l1) (hl2 : jb_r l2) (hl3 : jb_r l3) (hs0 : jb_r s0)
    (h : (¬ s0 = 0 → jb_w d 74 0 [some (.ref 79), none, none, none] [] σ (jb_k (d + 1) 143 39 [some (.ref 2), some (jb_v l1), some (jb_v l2), some (jb_v l3)] [] Q)) ∧ (¬ (¬ s0 = 0) → Q (.inl (some (jb_v 0)), σ))) :
    jb_w (d + 1) 143 30 [some (.ref 2), some (jb_v l1), some (jb_v l2), some (jb_v l3)] [(jb_v s0)] σ Q := by
  refine jw_if (p := 33) rfl jM143 jq143_30 (jc_ne hs0 jb_r0) (fun c1 => ?_) (fun c1 => ?_)
  · have h1 := h.1 c1
    refine jaL0 (p := 36) rfl jM143 jq143_35 ?_
    refine jw_getP (p := 39) (i := 4) (q := 79) rfl jM143 jq143_36 rfl (jo_2 hF) je_10_4 (jp_2_4 hF) ?_
    refine jw_callV [] jM143 jq143_39 rfl rfl (jo_79 hF) rfl jM74 rfl rfl ?_
    exact h1
  · have h1 := h.2 c1
    refine jw_iconst (p := 34) rfl jM143 jq143_33 ?_
    exact jw_iret jM143 jq143_34 (fun z => absurd z (by decide)) h1
theorem jk143_42_2 {d : Nat} {σ : ib_H} {Q : ib_O → Prop} {l1 : Int} {l2 : Int} {l3 : Int} {s0 : Int} (hF : jb_F σ) (hl1 : jb_r l1) (hl2 : jb_r l2) (hl3 : jb_r l3) (hs0 : jb_r s0)
    (h : jb_w d 76 0 [some (.ref 79), some (jb_v s0), none] [] σ (jb_k (d + 1) 143 48 [some (.ref 2), some (jb_v l1), some (jb_v l2), some (jb_v s0)] [] Q)) :
    jb_w (d + 1) 143 42 [some (.ref 2), some (jb_v l1), some (jb_v l2), some (jb_v l3)] [(jb_v s0)] σ Q := by
  refine jiS3 (p := 43) rfl jM143 jq143_42 ?_
  refine jaL0 (p := 44) rfl jM143 jq143_43 ?_
  refine jw_getP (p := 47) (i := 4) (q := 79) rfl jM143 jq143_44 rfl (jo_2 hF) je_10_4 (jp_2_4 hF) ?_
  refine jiL3 (p := 48) rfl jM143 jq143_47 ?_
  refine jw_callV [(jb_v s0)] jM143 jq143_48 rfl rfl (jo_79 hF) rfl jM76 rfl rfl ?_
  exact h
-- 144 PageLoom.changeLeaf(III)Z
theorem jk144_0 {d : Nat} {σ : ib_H} {Q : ib_O → Prop} {l1 : Int} {l2 : Int} {l3 : Int} (hF : jb_F σ) (hl1 : jb_r l1) (hl2 : jb_r l2) (hl3 : jb_r l3)
    (h : jb_w d 20 0 [some (.ref 63), some (jb_v 0), some (jb_v l1), none] [] σ (jb_k (d + 1) 144 6 [some (.ref 2), some (jb_v l1), some (jb_v l2), some (jb_v l3), none] [] Q)) :
    jb_w (d + 1) 144 0 [some (.ref 2), some (jb_v l1), some (jb_v l2), some (jb_v l3), none] [] σ Q := by
  refine jaL0 (p := 1) rfl jM144 jq144_0 ?_
  refine jw_getP (p := 4) (i := 2) (q := 63) rfl jM144 jq144_1 rfl (jo_2 hF) je_10_2 (jp_2_2 hF) ?_
  refine jw_iconst (p := 5) rfl jM144 jq144_4 ?_
  refine jiL1 (p := 6) rfl jM144 jq144_5 ?_
  refine jw_callV [(jb_v 0), (jb_v l1)] jM144 jq144_6 rfl rfl (jo_63 hF) rfl jM20 rfl rfl ?_
  exact h
theorem jk144_9 {d : Nat} {σ : ib_H} {Q : ib_O → Prop} {l1 : Int} {l2 : Int} {l3 : Int} {s0 : Nat} (hF : jb_F σ) (hl1 : jb_r l1) (hl2 : jb_r l2) (hl3 : jb_r l3) (hs0 : s0 ≠ 0 → jb_rc σ s0)
    (h : (¬ s0 = 0 → jb_w d 72 0 [some (.ref 79), some (jb_v l2), none] [] (jb_si σ s0 3 l2) (jb_k (d + 1) 144 31 [some (.ref 2), some (jb_v l1), some (jb_v l2), some (jb_v l3), some (.ref s0)] [(.ref s0)] Q)) ∧ (s0 = 0 → Q (.inl (some (jb_v 0)), σ))) :
    jb_w (d + 1) 144 9 [some (.ref 2), some (jb_v l1), some (jb_v l2), some (jb_v l3), none] [(.ref s0)] σ Q := by
  refine jaS4 (p := 11) rfl jM144 jq144_9 ?_
  refine jaL4 (p := 13) rfl jM144 jq144_11 ?_
  refine jw_ifnonnull (p := 16) rfl jM144 jq144_13 (fun c1 => ?_) (fun c1 => ?_)
  · have h1 := h.1 c1
    refine jaL4 (p := 20) rfl jM144 jq144_18 ?_
    refine jiL2 (p := 21) rfl jM144 jq144_20 ?_
    refine jw_putI (p := 24) (i := 3) rfl jM144 jq144_21 rfl (hs0 c1).ob (Or.inl jz_3_3) ?_
    refine jaL4 (p := 26) rfl jM144 jq144_24 ?_
    refine jaL0 (p := 27) rfl jM144 jq144_26 ?_
    refine jw_getP (p := 30) (i := 4) (q := 79) rfl jM144 jq144_27 rfl (jo_2 hF) je_10_4 (jp_2_4 hF) ?_
    refine jiL2 (p := 31) rfl jM144 jq144_30 ?_
    refine jw_callV [(jb_v l2)] jM144 jq144_31 rfl rfl (jo_79 hF) rfl jM72 rfl rfl ?_
    exact h1
  · have h1 := h.2 c1
    refine jw_iconst (p := 17) rfl jM144 jq144_16 ?_
    exact jw_iret jM144 jq144_17 (fun _ => Or.inl rfl) h1
theorem jk144_34 {d : Nat} {σ : ib_H} {Q : ib_O → Prop} {l1 : Int} {l2 : Int} {l3 : Int} {l4 : Nat} {s0 : Nat} {s1 : Int} (hF : jb_F σ) (hl1 : jb_r l1) (hl2 : jb_r l2) (hl3 : jb_r l3) (hl4 : l4 ≠ 0 → jb_rc σ l4) (hs0 : s0 ≠ 0 → jb_rc σ s0) (hs1 : jb_r s1)
    (h : (s0 ≠ 0) ∧ ((l4 ≠ 0) ∧ (jb_w d 70 0 [some (.ref 79)] [] (jb_si (jb_si σ s0 4 s1) l4 5 l3) (jb_k (d + 1) 144 49 [some (.ref 2), some (jb_v l1), some (jb_v l2), some (jb_v l3), some (.ref l4)] [(.ref l4)] Q)))) :
    jb_w (d + 1) 144 34 [some (.ref 2), some (jb_v l1), some (jb_v l2), some (jb_v l3), some (.ref l4)] [(jb_v s1), (.ref s0)] σ Q := by
  obtain ⟨c1, h1⟩ := h
  refine jw_putI (p := 37) (i := 4) rfl jM144 jq144_34 rfl (hs0 c1).ob (Or.inl jz_3_4) ?_
  refine jaL4 (p := 39) rfl jM144 jq144_37 ?_
  refine jiL3 (p := 40) rfl jM144 jq144_39 ?_
  obtain ⟨c2, h2⟩ := h1
  refine jw_putI (p := 43) (i := 5) rfl jM144 jq144_40 rfl (hl4 c2).ob (Or.inl jz_3_5) ?_
  refine jaL4 (p := 45) rfl jM144 jq144_43 ?_
  refine jaL0 (p := 46) rfl jM144 jq144_45 ?_
  refine jw_getP (p := 49) (i := 4) (q := 79) rfl jM144 jq144_46 rfl (jo_2 hF) je_10_4 (jp_2_4 hF) ?_
  refine jw_callV [] jM144 jq144_49 rfl rfl (jo_79 hF) rfl jM70 rfl rfl ?_
  exact h2
theorem jk144_52 {d : Nat} {σ : ib_H} {Q : ib_O → Prop} {l1 : Int} {l2 : Int} {l3 : Int} {l4 : Nat} {s0 : Nat} {s1 : Int} (hF : jb_F σ) (hl1 : jb_r l1) (hl2 : jb_r l2) (hl3 : jb_r l3) (hl4 : l4 ≠ 0 → jb_rc σ l4) (hs0 : s0 ≠ 0 → jb_rc σ s0) (hs1 : jb_r s1)
    (h : (s0 ≠ 0) ∧ (jb_w d 26 0 [some (.ref s0), some (jb_v s1)] [] σ (jb_k (d + 1) 144 52 [some (.ref 2), some (jb_v l1), some (jb_v l2), some (jb_v l3), some (.ref l4)] [] Q))) :
    jb_w (d + 1) 144 52 [some (.ref 2), some (jb_v l1), some (jb_v l2), some (jb_v l3), some (.ref l4)] [(jb_v s1), (.ref s0)] σ Q := by
  obtain ⟨c1, h1⟩ := h
  refine jw_callV [(jb_v s1)] jM144 jq144_52 rfl rfl (hs0 c1).ob rfl jM26 rfl rfl ?_
  exact h1
theorem jk144_55 {d : Nat} {σ : ib_H} {Q : ib_O → Prop} {l1 : Int} {l2 : Int} {l3 : Int} {l4 : Nat} (hF : jb_F σ) (hl1 : jb_r l1) (hl2 : jb_r l2) (hl3 : jb_r l3) (hl4 : l4 ≠ 0 → jb_rc σ l4)
    (h : jb_w d 80 0 [some (.ref 79), some (jb_v (jb_i σ 63 4)), none, none, none, none] [] σ (jb_k (d + 1) 144 66 [some (.ref 2), some (jb_v l1), some (jb_v l2), some (jb_v l3), some (.ref l4)] [] Q)) :
    jb_w (d + 1) 144 55 [some (.ref 2), some (jb_v l1), some (jb_v l2), some (jb_v l3), some (.ref l4)] [] σ Q := by
  refine jaL0 (p := 56) rfl jM144 jq144_55 ?_
  refine jw_getP (p := 59) (i := 4) (q := 79) rfl jM144 jq144_56 rfl (jo_2 hF) je_10_4 (jp_2_4 hF) ?_
  refine jaL0 (p := 60) rfl jM144 jq144_59 ?_
  refine jw_getP (p := 63) (i := 2) (q := 63) rfl jM144 jq144_60 rfl (jo_2 hF) je_10_2 (jp_2_2 hF) ?_
  refine jw_getI (p := 66) (i := 4) rfl jM144 jq144_63 rfl (jo_63 hF) jn_2_4 ?_
  refine jw_callV [(jb_v (jb_i σ 63 4))] jM144 jq144_66 rfl rfl (jo_79 hF) rfl jM80 rfl rfl ?_
  exact h
theorem jk144_69 {d : Nat} {σ : ib_H} {Q : ib_O → Prop} {l1 : Int} {l2 : Int} {l3 : Int} {l4 : Nat} {s0 : Int} (hF : jb_F σ) (hl1 : jb_r l1) (hl2 : jb_r l2) (hl3 : jb_r l3) (hl4 : l4 ≠ 0 → jb_rc σ l4) (hs0 : jb_r s0)
    (h : (s0 = 0 ∨ s0 = 1) ∧ (Q (.inl (some (jb_v s0)), σ))) :
    jb_w d 144 69 [some (.ref 2), some (jb_v l1), some (jb_v l2), some (jb_v l3), some (.ref l4)] [(jb_v s0)] σ Q := by
  obtain ⟨c1, h1⟩ := h
  exact jw_iret jM144 jq144_69 (fun _ => c1) h1
