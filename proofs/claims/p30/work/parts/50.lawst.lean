/-! the law's state: the class's part, the law's own rows, the script; low() and cell() -/
def jy_S (L : Nat) (xs : Nat → Int32) (K : jc_K) (G : jg_G) (σ : ib_H) : Prop := jb_F σ ∧ jc_view σ = K ∧ jg_ref σ = G ∧ ib_sh σ 1 = (99, L) ∧ ib_I σ 1 = xs ∧ L ≤ 260
def jy_W (L : Nat) (xs : Nat → Int32) (K : jc_K) (G : jg_G) (d mi pc : Nat) (ls : ib_Ls) (st : List Value) (Q : ib_O → Prop) : Prop := ∀ σ, jy_S L xs K G σ → jb_w d mi pc ls st σ Q
section JyS
variable {L : Nat} {xs : Nat → Int32} {K K' : jc_K} {G G' : jg_G} {σ σ' : ib_H}
theorem jy_S.c (s : jy_S L xs K G σ) : jc_S σ K σ := ⟨s.1, s.2.1, fun _ _ => rfl, fun _ _ => rfl, rfl⟩
theorem jy_S.g (s : jy_S L xs K G σ) : jg_S σ G σ := ⟨s.1, s.2.2.1, rfl, rfl, rfl, fun _ _ => rfl⟩
theorem jy_S.r (s : jy_S L xs K G σ) (n : Nat) (i : Int) : jb_r (G n i) := s.g.r n i
theorem jy_S.c' (s : jy_S L xs K G σ) (h : jc_S σ K' σ') : jy_S L xs K' G σ' := by
  obtain ⟨h1, h2, h3, h4, h5⟩ := h
  refine ⟨h1, h2, ?_, by rw [h5]; exact s.2.2.2.1, by rw [h3 1 (by decide)]; exact s.2.2.2.2.1, s.2.2.2.2.2⟩
  rw [← s.2.2.1]
  funext n i
  unfold jg_ref
  by_cases h : 92 ≤ n ∧ n < 98 ∧ 0 ≤ i
  · rw [if_pos h, if_pos h]
    unfold jb_i
    rw [h3 n (by omega)]
  · rw [if_neg h, if_neg h]
theorem jy_S.g' (s : jy_S L xs K G σ) (h : jg_S σ G' σ') : jy_S L xs K G' σ' := by
  obtain ⟨h1, h2, h3, h4, h5, h6⟩ := h
  have eP : ib_P σ' = ib_P σ := congrArg Prod.fst h5
  refine ⟨h1, ?_, h2, by show σ'.2.1 1 = _; rw [h4]; exact s.2.2.2.1, by show σ'.2.2.1 1 = _; rw [h6 1 (by omega)]; exact s.2.2.2.2.1, s.2.2.2.2.2⟩
  rw [← s.2.1]
  unfold jc_view
  refine Prod.ext h3 (Prod.ext h4 (Prod.ext ?_ ?_))
  · funext n i
    dsimp only
    by_cases h : ((2 ≤ n ∧ n < 92) ∨ 98 ≤ n) ∧ 0 ≤ i
    · rw [if_pos h, if_pos h]
      unfold jb_i
      show (σ'.2.2.1 n i.toNat).toInt = _
      rw [h6 n (by omega)]
    · rw [if_neg h, if_neg h]
  · funext n i
    dsimp only
    unfold jb_p
    rw [eP]
/-- an answer that is no throw -/
def jy_ok (o : Option (jc_K × (Int ⊕ Nat))) : Option (jc_K × Int) := o.bind fun x => match x.2 with
  | .inl v => some (x.1, v)
  | .inr _ => none
theorem jy_okb {o : Option (jc_K × (Int ⊕ Nat))} {r : jc_K × Int} (h : jy_ok o = some r) : o = some (r.1, .inl r.2) := by
  cases o with
  | none => cases h
  | some x =>
    obtain ⟨K, v⟩ := x
    cases v with
    | inl v => cases h; rfl
    | inr k => cases h
def jl_low (v n : Int) : Int := jl_an v 2147483647 % n
theorem jl_low_b {v n : Int} (h : 0 < n) : 0 ≤ jl_low v n ∧ jl_low v n < n := ⟨Int.emod_nonneg _ (by omega), Int.emod_lt_of_pos _ h⟩
def jl_x (xs : Nat → Int32) (i : Int) : Int := (xs i.toNat).toInt
theorem jl_x_r (xs : Nat → Int32) (i : Int) : jb_r (jl_x xs i) := ⟨Int32.le_toInt _, Int32.toInt_lt _⟩
def jl_cell (L : Nat) (xs : Nat → Int32) (k : Int) : Int := if k < L then jl_x xs k else jb_m (50857 * (k + 41) + 3087691)
theorem jl_cell_r (L : Nat) (xs : Nat → Int32) (k : Int) : jb_r (jl_cell L xs k) := by
  unfold jl_cell
  split
  · exact jl_x_r _ _
  · exact jb_m_r _
theorem jy_low {d : Nat} {Q : ib_O → Prop} {v n : Int} (hv : jb_r v) (h0 : 0 < n) (hn : jb_r n) (k : jb_r (jl_low v n) → Q (.inl (some (jb_v (jl_low v n))), σ)) (s : jy_S L xs K G σ) : jb_w d 146 0 [some (jb_v v), some (jb_v n)] [] σ Q := by
  refine jiL0 (p := 1) rfl jM146 jq146_0 ?_
  refine jw_ldc (p := 3) (z := 2147483647) rfl jM146 jq146_1 (by decide +kernel) ?_
  refine jw_iand (p := 4) rfl jM146 jq146_3 ?_
  refine jiL1 (p := 5) rfl jM146 jq146_4 ?_
  refine jw_irem (p := 6) rfl jM146 jq146_5 (jl_an_p v) (jl_an_r _ _) h0 hn ?_
  exact jw_iret jM146 jq146_6 (fun z => absurd z (by decide)) (k (jb_r_rem (jl_an_p v) (jl_an_r _ _) h0))
theorem jy_cell {d : Nat} {Q : ib_O → Prop} {i : Int} (h0 : 0 ≤ i) (hi : jb_r i) (k : jb_r (jl_cell L xs i) → Q (.inl (some (jb_v (jl_cell L xs i))), σ)) (s : jy_S L xs K G σ) : jb_w d 145 0 [some (.ref 1), some (jb_v i)] [] σ Q := by
  have hL : (L : Int) ≤ 260 := by have := s.2.2.2.2.2; omega
  have k := k (jl_cell_r L xs i)
  unfold jl_cell at k
  refine jiL1 (p := 1) rfl jM145 jq145_0 ?_
  refine jaL0 (p := 2) rfl jM145 jq145_1 ?_
  refine jb_step (x := (3, [some (.ref 1), some (jb_v i)], [jb_v (L : Int), jb_v i], σ)) jM145 jq145_2 ?_ ?_
  · simp only [ib_at]
    rw [if_pos trivial, s.2.2.2.1]
    rfl
  refine jw_ic (p := 6) rfl jM145 jq145_3 (jc_ge hi ⟨by omega, by omega⟩) (fun c => ?_) (fun c => ?_)
  · rw [if_neg (by omega)] at k
    refine jw_ldc (p := 14) (z := 50857) rfl jM145 jq145_12 (by decide +kernel) ?_
    refine jiL1 (p := 15) rfl jM145 jq145_14 ?_
    refine jw_bipush (p := 17) rfl jM145 jq145_15 (by decide) ?_
    refine jw_iadd (p := 18) rfl jM145 jq145_17 ?_
    refine jw_imul (p := 19) rfl jM145 jq145_18 ?_
    refine jw_ldc (p := 21) (z := 3087691) rfl jM145 jq145_19 (by decide +kernel) ?_
    refine jw_iadd (p := 22) rfl jM145 jq145_21 ?_
    refine jw_iret jM145 jq145_22 (fun z => absurd z (by decide)) ?_
    rw [jb_m_v] at k
    exact k
  · have hlt : i < L := by omega
    rw [if_pos hlt] at k
    refine jaL0 (p := 7) rfl jM145 jq145_6 ?_
    refine jiL1 (p := 8) rfl jM145 jq145_7 ?_
    refine jb_step (x := (9, [some (.ref 1), some (jb_v i)], [jb_v (jl_x xs i)], σ)) jM145 jq145_8 ?_ ?_
    · simp only [ib_at]
      have hn : ¬ (Int32.ofInt i < 0 ∨ (ib_sh σ 1).2 ≤ (Int32.ofInt i).toNatClampNeg) := by
        rw [s.2.2.2.1, jb_nc hi, Int32.lt_iff_toInt_lt, jb_ti hi]
        have : (0 : Int32).toInt = 0 := rfl
        show ¬ (i < (0 : Int32).toInt ∨ L ≤ i.toNat)
        omega
      rw [if_pos trivial, if_neg hn, jb_nc hi, show ib_I σ 1 = xs from s.2.2.2.2.1]
      show _ = some (Sum.inl (9, [some (.ref 1), some (jb_v i)], [Value.int (Int32.ofInt (jl_x xs i))], σ))
      unfold jl_x
      rw [Int32.ofInt_toInt]
    refine jw_goto jM145 jq145_9 ?_
    exact jw_iret jM145 jq145_22 (fun z => absurd z (by decide)) k
end JyS
