/-! the law's catching methods: written by wip/tools/genl.py -/
def jl_wr (mp : Nat → Int) (o : Int) (x : Int ⊕ Nat) : Int × Int := match x with
  | .inl v => (0, v)
  | .inr e => (mp e, o)
def jl_m231 : Nat → Int := fun e => if e = 0 then 1 else if e = 1 then 2 else 0
theorem jl231 {d : Nat} {L : Nat} {xs : Nat → Int32} {K : jc_K} {G : jg_G} {o : Int} {σ : ib_H} {Q : ib_O → Prop} {a1 : Int} {x : jc_K × (Int ⊕ Nat)} (ha1 : jb_r a1) (h : fc107 K a1 = some x) (he : ∀ e, x.2 = .inr e → jl_m231 e ≠ 0) (s : jl_S L xs K G o σ) (k : ∀ σ', jl_S L xs x.1 G o σ' → Q (.inl (some (jb_v (jl_wr jl_m231 o x.2).1)), σ')) : jb_w (d + 8) 231 0 [some (.ref 2), some (jb_v a1), none] [] σ Q := by
  refine jaL0 (p := 1) rfl jM231 jq231_0 ?_
  refine jiL1 (p := 2) rfl jM231 jq231_1 ?_
  refine jw_callVH [(jb_v a1)] jM231 jq231_2 rfl rfl (jo_2 s.1) jM107 rfl rfl ?_
  refine jd107 ha1 h (fun σ2 s2 hv => ?_) σ s.c
  have s3 := s.c' s2
  obtain ⟨K2, x2⟩ := x
  cases x2 with
  | inl v =>
    show jb_w (d + 8) 231 5 [some (.ref 2), some (jb_v a1), none] [] σ2 Q
    refine jw_goto jM231 jq231_5 ?_
    refine jw_iconst (p := 15) rfl jM231 jq231_14 ?_
    exact jw_iret jM231 jq231_15 (fun z => absurd z (by decide)) (k σ2 s3)
  | inr e =>
    have he := he e rfl
    by_cases c0 : e = 0
    · subst c0
      refine ⟨8, rfl, Or.inl ⟨2, _, _, _, _, jq231_8, ?_⟩⟩
      show jb_w (d + 8) 231 9 [some (.ref 2), some (jb_v a1), none] [] σ2 Q
      refine jw_iconst (p := 10) rfl jM231 jq231_9 ?_
      exact jw_iret jM231 jq231_10 (fun z => absurd z (by decide)) (k σ2 s3)
    by_cases c1 : e = 1
    · subst c1
      refine ⟨11, rfl, Or.inl ⟨2, _, _, _, _, jq231_11, ?_⟩⟩
      show jb_w (d + 8) 231 12 [some (.ref 2), some (jb_v a1), none] [] σ2 Q
      refine jw_iconst (p := 13) rfl jM231 jq231_12 ?_
      exact jw_iret jM231 jq231_13 (fun z => absurd z (by decide)) (k σ2 s3)
    exact absurd (by simp [jl_m231, c0, c1]) he
def jl_m232 : Nat → Int := fun e => if e = 0 then 1 else if e = 1 then 2 else 0
theorem jl232 {d : Nat} {L : Nat} {xs : Nat → Int32} {K : jc_K} {G : jg_G} {o : Int} {σ : ib_H} {Q : ib_O → Prop} {a1 : Int} {a2 : Int} {a3 : Int} {x : jc_K × (Int ⊕ Nat)} (ha1 : jb_r a1) (ha2 : jb_r a2) (ha3 : jb_r a3) (h : fc108 K a1 a2 a3 = some x) (he : ∀ e, x.2 = .inr e → jl_m232 e ≠ 0) (s : jl_S L xs K G o σ) (k : ∀ σ', jl_S L xs x.1 G (jl_wr jl_m232 o x.2).2 σ' → Q (.inl (some (jb_v (jl_wr jl_m232 o x.2).1)), σ')) : jb_w (d + 9) 232 0 [some (.ref 2), some (jb_v a1), some (jb_v a2), some (jb_v a3), some (.ref 119), none] [] σ Q := by
  refine jaL4 (p := 2) rfl jM232 jq232_0 ?_
  refine jw_iconst (p := 3) rfl jM232 jq232_2 ?_
  refine jaL0 (p := 4) rfl jM232 jq232_3 ?_
  refine jiL1 (p := 5) rfl jM232 jq232_4 ?_
  refine jiL2 (p := 6) rfl jM232 jq232_5 ?_
  refine jiL3 (p := 7) rfl jM232 jq232_6 ?_
  refine jw_callVH [(jb_v a1), (jb_v a2), (jb_v a3)] jM232 jq232_7 rfl rfl (jo_2 s.1) jM108 rfl rfl ?_
  refine jd108 ha1 ha2 ha3 h (fun σ2 s2 hv => ?_) σ s.c
  have s3 := s.c' s2
  obtain ⟨K2, x2⟩ := x
  cases x2 with
  | inl v =>
    have hv := hv v rfl
    show jb_w (d + 9) 232 10 [some (.ref 2), some (jb_v a1), some (jb_v a2), some (jb_v a3), some (.ref 119), none] (jb_v v :: [jb_v 0, .ref 119]) σ2 Q
    refine jw_i2l (p := 11) rfl jM232 jq232_10 ?_
    refine jw_last (p := 12) rfl jM232 jq232_11 s3 hv (fun σ4 s4 => ?_)
    refine jw_goto jM232 jq232_12 ?_
    refine jw_iconst (p := 24) rfl jM232 jq232_23 ?_
    exact jw_iret jM232 jq232_24 (fun z => absurd z (by decide)) (k σ4 s4)
  | inr e =>
    have he := he e rfl
    by_cases c0 : e = 0
    · subst c0
      refine ⟨15, rfl, Or.inr ⟨5, _, _, _, _, jq232_15, ?_⟩⟩
      show jb_w (d + 9) 232 17 [some (.ref 2), some (jb_v a1), some (jb_v a2), some (jb_v a3), some (.ref 119), none] [] σ2 Q
      refine jw_iconst (p := 18) rfl jM232 jq232_17 ?_
      exact jw_iret jM232 jq232_18 (fun z => absurd z (by decide)) (k σ2 s3)
    by_cases c1 : e = 1
    · subst c1
      refine ⟨19, rfl, Or.inr ⟨5, _, _, _, _, jq232_19, ?_⟩⟩
      show jb_w (d + 9) 232 21 [some (.ref 2), some (jb_v a1), some (jb_v a2), some (jb_v a3), some (.ref 119), none] [] σ2 Q
      refine jw_iconst (p := 22) rfl jM232 jq232_21 ?_
      exact jw_iret jM232 jq232_22 (fun z => absurd z (by decide)) (k σ2 s3)
    exact absurd (by simp [jl_m232, c0, c1]) he
def jl_m233 : Nat → Int := fun e => if e = 0 then 1 else if e = 1 then 2 else 0
theorem jl233 {d : Nat} {L : Nat} {xs : Nat → Int32} {K : jc_K} {G : jg_G} {o : Int} {σ : ib_H} {Q : ib_O → Prop} {a1 : Int} {a2 : Int} {x : jc_K × (Int ⊕ Nat)} (ha1 : jb_r a1) (ha2 : jb_r a2) (h : fc109 K a1 a2 = some x) (he : ∀ e, x.2 = .inr e → jl_m233 e ≠ 0) (s : jl_S L xs K G o σ) (k : ∀ σ', jl_S L xs x.1 G (jl_wr jl_m233 o x.2).2 σ' → Q (.inl (some (jb_v (jl_wr jl_m233 o x.2).1)), σ')) : jb_w (d + 9) 233 0 [some (.ref 2), some (jb_v a1), some (jb_v a2), some (.ref 119), none] [] σ Q := by
  refine jaL3 (p := 1) rfl jM233 jq233_0 ?_
  refine jw_iconst (p := 2) rfl jM233 jq233_1 ?_
  refine jaL0 (p := 3) rfl jM233 jq233_2 ?_
  refine jiL1 (p := 4) rfl jM233 jq233_3 ?_
  refine jiL2 (p := 5) rfl jM233 jq233_4 ?_
  refine jw_callVH [(jb_v a1), (jb_v a2)] jM233 jq233_5 rfl rfl (jo_2 s.1) jM109 rfl rfl ?_
  refine jd109 ha1 ha2 h (fun σ2 s2 hv => ?_) σ s.c
  have s3 := s.c' s2
  obtain ⟨K2, x2⟩ := x
  cases x2 with
  | inl v =>
    have hv := hv v rfl
    show jb_w (d + 9) 233 8 [some (.ref 2), some (jb_v a1), some (jb_v a2), some (.ref 119), none] (jb_v v :: [jb_v 0, .ref 119]) σ2 Q
    refine jw_i2l (p := 9) rfl jM233 jq233_8 ?_
    refine jw_last (p := 10) rfl jM233 jq233_9 s3 hv (fun σ4 s4 => ?_)
    refine jw_goto jM233 jq233_10 ?_
    refine jw_iconst (p := 22) rfl jM233 jq233_21 ?_
    exact jw_iret jM233 jq233_22 (fun z => absurd z (by decide)) (k σ4 s4)
  | inr e =>
    have he := he e rfl
    by_cases c0 : e = 0
    · subst c0
      refine ⟨13, rfl, Or.inr ⟨4, _, _, _, _, jq233_13, ?_⟩⟩
      show jb_w (d + 9) 233 15 [some (.ref 2), some (jb_v a1), some (jb_v a2), some (.ref 119), none] [] σ2 Q
      refine jw_iconst (p := 16) rfl jM233 jq233_15 ?_
      exact jw_iret jM233 jq233_16 (fun z => absurd z (by decide)) (k σ2 s3)
    by_cases c1 : e = 1
    · subst c1
      refine ⟨17, rfl, Or.inr ⟨4, _, _, _, _, jq233_17, ?_⟩⟩
      show jb_w (d + 9) 233 19 [some (.ref 2), some (jb_v a1), some (jb_v a2), some (.ref 119), none] [] σ2 Q
      refine jw_iconst (p := 20) rfl jM233 jq233_19 ?_
      exact jw_iret jM233 jq233_20 (fun z => absurd z (by decide)) (k σ2 s3)
    exact absurd (by simp [jl_m233, c0, c1]) he
def jl_m234 : Nat → Int := fun e => if e = 0 then 1 else if e = 1 then 2 else 0
theorem jl234 {d : Nat} {L : Nat} {xs : Nat → Int32} {K : jc_K} {G : jg_G} {o : Int} {σ : ib_H} {Q : ib_O → Prop} {a1 : Int} {a2 : Int} {x : jc_K × (Int ⊕ Nat)} (ha1 : jb_r a1) (ha2 : jb_r a2) (h : fc110 K a1 a2 = some x) (he : ∀ e, x.2 = .inr e → jl_m234 e ≠ 0) (s : jl_S L xs K G o σ) (k : ∀ σ', jl_S L xs x.1 G (jl_wr jl_m234 o x.2).2 σ' → Q (.inl (some (jb_v (jl_wr jl_m234 o x.2).1)), σ')) : jb_w (d + 9) 234 0 [some (.ref 2), some (jb_v a1), some (jb_v a2), some (.ref 119), none] [] σ Q := by
  refine jaL3 (p := 1) rfl jM234 jq234_0 ?_
  refine jw_iconst (p := 2) rfl jM234 jq234_1 ?_
  refine jaL0 (p := 3) rfl jM234 jq234_2 ?_
  refine jiL1 (p := 4) rfl jM234 jq234_3 ?_
  refine jiL2 (p := 5) rfl jM234 jq234_4 ?_
  refine jw_callVH [(jb_v a1), (jb_v a2)] jM234 jq234_5 rfl rfl (jo_2 s.1) jM110 rfl rfl ?_
  refine jd110 ha1 ha2 h (fun σ2 s2 hv => ?_) σ s.c
  have s3 := s.c' s2
  obtain ⟨K2, x2⟩ := x
  cases x2 with
  | inl v =>
    have hv := hv v rfl
    show jb_w (d + 9) 234 8 [some (.ref 2), some (jb_v a1), some (jb_v a2), some (.ref 119), none] (jb_v v :: [jb_v 0, .ref 119]) σ2 Q
    refine jw_i2l (p := 9) rfl jM234 jq234_8 ?_
    refine jw_last (p := 10) rfl jM234 jq234_9 s3 hv (fun σ4 s4 => ?_)
    refine jw_goto jM234 jq234_10 ?_
    refine jw_iconst (p := 22) rfl jM234 jq234_21 ?_
    exact jw_iret jM234 jq234_22 (fun z => absurd z (by decide)) (k σ4 s4)
  | inr e =>
    have he := he e rfl
    by_cases c0 : e = 0
    · subst c0
      refine ⟨13, rfl, Or.inr ⟨4, _, _, _, _, jq234_13, ?_⟩⟩
      show jb_w (d + 9) 234 15 [some (.ref 2), some (jb_v a1), some (jb_v a2), some (.ref 119), none] [] σ2 Q
      refine jw_iconst (p := 16) rfl jM234 jq234_15 ?_
      exact jw_iret jM234 jq234_16 (fun z => absurd z (by decide)) (k σ2 s3)
    by_cases c1 : e = 1
    · subst c1
      refine ⟨17, rfl, Or.inr ⟨4, _, _, _, _, jq234_17, ?_⟩⟩
      show jb_w (d + 9) 234 19 [some (.ref 2), some (jb_v a1), some (jb_v a2), some (.ref 119), none] [] σ2 Q
      refine jw_iconst (p := 20) rfl jM234 jq234_19 ?_
      exact jw_iret jM234 jq234_20 (fun z => absurd z (by decide)) (k σ2 s3)
    exact absurd (by simp [jl_m234, c0, c1]) he
def jl_m235 : Nat → Int := fun e => if e = 0 then 1 else if e = 1 then 2 else 0
theorem jl235 {d : Nat} {L : Nat} {xs : Nat → Int32} {K : jc_K} {G : jg_G} {o : Int} {σ : ib_H} {Q : ib_O → Prop} {a1 : Int} {x : jc_K × (Int ⊕ Nat)} (ha1 : jb_r a1) (h : fc111 K a1 = some x) (he : ∀ e, x.2 = .inr e → jl_m235 e ≠ 0) (s : jl_S L xs K G o σ) (k : ∀ σ', jl_S L xs x.1 G (jl_wr jl_m235 o x.2).2 σ' → Q (.inl (some (jb_v (jl_wr jl_m235 o x.2).1)), σ')) : jb_w (d + 9) 235 0 [some (.ref 2), some (jb_v a1), some (.ref 119), none] [] σ Q := by
  refine jaL2 (p := 1) rfl jM235 jq235_0 ?_
  refine jw_iconst (p := 2) rfl jM235 jq235_1 ?_
  refine jaL0 (p := 3) rfl jM235 jq235_2 ?_
  refine jiL1 (p := 4) rfl jM235 jq235_3 ?_
  refine jw_callVH [(jb_v a1)] jM235 jq235_4 rfl rfl (jo_2 s.1) jM111 rfl rfl ?_
  refine jd111 ha1 h (fun σ2 s2 hv => ?_) σ s.c
  have s3 := s.c' s2
  obtain ⟨K2, x2⟩ := x
  cases x2 with
  | inl v =>
    have hv := hv v rfl
    show jb_w (d + 9) 235 7 [some (.ref 2), some (jb_v a1), some (.ref 119), none] (jb_v v :: [jb_v 0, .ref 119]) σ2 Q
    refine jw_i2l (p := 8) rfl jM235 jq235_7 ?_
    refine jw_last (p := 9) rfl jM235 jq235_8 s3 hv (fun σ4 s4 => ?_)
    refine jw_goto jM235 jq235_9 ?_
    refine jw_iconst (p := 19) rfl jM235 jq235_18 ?_
    exact jw_iret jM235 jq235_19 (fun z => absurd z (by decide)) (k σ4 s4)
  | inr e =>
    have he := he e rfl
    by_cases c0 : e = 0
    · subst c0
      refine ⟨12, rfl, Or.inl ⟨3, _, _, _, _, jq235_12, ?_⟩⟩
      show jb_w (d + 9) 235 13 [some (.ref 2), some (jb_v a1), some (.ref 119), none] [] σ2 Q
      refine jw_iconst (p := 14) rfl jM235 jq235_13 ?_
      exact jw_iret jM235 jq235_14 (fun z => absurd z (by decide)) (k σ2 s3)
    by_cases c1 : e = 1
    · subst c1
      refine ⟨15, rfl, Or.inl ⟨3, _, _, _, _, jq235_15, ?_⟩⟩
      show jb_w (d + 9) 235 16 [some (.ref 2), some (jb_v a1), some (.ref 119), none] [] σ2 Q
      refine jw_iconst (p := 17) rfl jM235 jq235_16 ?_
      exact jw_iret jM235 jq235_17 (fun z => absurd z (by decide)) (k σ2 s3)
    exact absurd (by simp [jl_m235, c0, c1]) he
def jl_m236 : Nat → Int := fun e => if e = 0 then 1 else if e = 1 then 2 else 0
theorem jl236 {d : Nat} {L : Nat} {xs : Nat → Int32} {K : jc_K} {G : jg_G} {o : Int} {σ : ib_H} {Q : ib_O → Prop} {a1 : Int} {a2 : Int} {x : jc_K × (Int ⊕ Nat)} (ha1 : jb_r a1) (ha2 : jb_r a2) (h : fc112 K a1 a2 = some x) (he : ∀ e, x.2 = .inr e → jl_m236 e ≠ 0) (s : jl_S L xs K G o σ) (k : ∀ σ', jl_S L xs x.1 G (jl_wr jl_m236 o x.2).2 σ' → Q (.inl (some (jb_v (jl_wr jl_m236 o x.2).1)), σ')) : jb_w (d + 9) 236 0 [some (.ref 2), some (jb_v a1), some (jb_v a2), some (.ref 119), none] [] σ Q := by
  refine jaL3 (p := 1) rfl jM236 jq236_0 ?_
  refine jw_iconst (p := 2) rfl jM236 jq236_1 ?_
  refine jaL0 (p := 3) rfl jM236 jq236_2 ?_
  refine jiL1 (p := 4) rfl jM236 jq236_3 ?_
  refine jiL2 (p := 5) rfl jM236 jq236_4 ?_
  refine jw_callVH [(jb_v a1), (jb_v a2)] jM236 jq236_5 rfl rfl (jo_2 s.1) jM112 rfl rfl ?_
  refine jd112 ha1 ha2 h (fun σ2 s2 hv => ?_) σ s.c
  have s3 := s.c' s2
  obtain ⟨K2, x2⟩ := x
  cases x2 with
  | inl v =>
    have hv := hv v rfl
    show jb_w (d + 9) 236 8 [some (.ref 2), some (jb_v a1), some (jb_v a2), some (.ref 119), none] (jb_v v :: [jb_v 0, .ref 119]) σ2 Q
    refine jw_i2l (p := 9) rfl jM236 jq236_8 ?_
    refine jw_last (p := 10) rfl jM236 jq236_9 s3 hv (fun σ4 s4 => ?_)
    refine jw_goto jM236 jq236_10 ?_
    refine jw_iconst (p := 22) rfl jM236 jq236_21 ?_
    exact jw_iret jM236 jq236_22 (fun z => absurd z (by decide)) (k σ4 s4)
  | inr e =>
    have he := he e rfl
    by_cases c0 : e = 0
    · subst c0
      refine ⟨13, rfl, Or.inr ⟨4, _, _, _, _, jq236_13, ?_⟩⟩
      show jb_w (d + 9) 236 15 [some (.ref 2), some (jb_v a1), some (jb_v a2), some (.ref 119), none] [] σ2 Q
      refine jw_iconst (p := 16) rfl jM236 jq236_15 ?_
      exact jw_iret jM236 jq236_16 (fun z => absurd z (by decide)) (k σ2 s3)
    by_cases c1 : e = 1
    · subst c1
      refine ⟨17, rfl, Or.inr ⟨4, _, _, _, _, jq236_17, ?_⟩⟩
      show jb_w (d + 9) 236 19 [some (.ref 2), some (jb_v a1), some (jb_v a2), some (.ref 119), none] [] σ2 Q
      refine jw_iconst (p := 20) rfl jM236 jq236_19 ?_
      exact jw_iret jM236 jq236_20 (fun z => absurd z (by decide)) (k σ2 s3)
    exact absurd (by simp [jl_m236, c0, c1]) he
def jl_m237 : Nat → Int := fun e => if e = 0 then 1 else if e = 1 then 2 else 0
theorem jl237 {d : Nat} {L : Nat} {xs : Nat → Int32} {K : jc_K} {G : jg_G} {o : Int} {σ : ib_H} {Q : ib_O → Prop} {a1 : Int} {x : jc_K × (Int ⊕ Nat)} (ha1 : jb_r a1) (h : fc113 K a1 = some x) (he : ∀ e, x.2 = .inr e → jl_m237 e ≠ 0) (s : jl_S L xs K G o σ) (k : ∀ σ', jl_S L xs x.1 G (jl_wr jl_m237 o x.2).2 σ' → Q (.inl (some (jb_v (jl_wr jl_m237 o x.2).1)), σ')) : jb_w (d + 9) 237 0 [some (.ref 2), some (jb_v a1), some (.ref 119), none] [] σ Q := by
  refine jaL2 (p := 1) rfl jM237 jq237_0 ?_
  refine jw_iconst (p := 2) rfl jM237 jq237_1 ?_
  refine jaL0 (p := 3) rfl jM237 jq237_2 ?_
  refine jiL1 (p := 4) rfl jM237 jq237_3 ?_
  refine jw_callVH [(jb_v a1)] jM237 jq237_4 rfl rfl (jo_2 s.1) jM113 rfl rfl ?_
  refine jd113 ha1 h (fun σ2 s2 hv => ?_) σ s.c
  have s3 := s.c' s2
  obtain ⟨K2, x2⟩ := x
  cases x2 with
  | inl v =>
    have hv := hv v rfl
    show jb_w (d + 9) 237 7 [some (.ref 2), some (jb_v a1), some (.ref 119), none] (jb_v v :: [jb_v 0, .ref 119]) σ2 Q
    refine jw_i2l (p := 8) rfl jM237 jq237_7 ?_
    refine jw_last (p := 9) rfl jM237 jq237_8 s3 hv (fun σ4 s4 => ?_)
    refine jw_goto jM237 jq237_9 ?_
    refine jw_iconst (p := 19) rfl jM237 jq237_18 ?_
    exact jw_iret jM237 jq237_19 (fun z => absurd z (by decide)) (k σ4 s4)
  | inr e =>
    have he := he e rfl
    by_cases c0 : e = 0
    · subst c0
      refine ⟨12, rfl, Or.inl ⟨3, _, _, _, _, jq237_12, ?_⟩⟩
      show jb_w (d + 9) 237 13 [some (.ref 2), some (jb_v a1), some (.ref 119), none] [] σ2 Q
      refine jw_iconst (p := 14) rfl jM237 jq237_13 ?_
      exact jw_iret jM237 jq237_14 (fun z => absurd z (by decide)) (k σ2 s3)
    by_cases c1 : e = 1
    · subst c1
      refine ⟨15, rfl, Or.inl ⟨3, _, _, _, _, jq237_15, ?_⟩⟩
      show jb_w (d + 9) 237 16 [some (.ref 2), some (jb_v a1), some (.ref 119), none] [] σ2 Q
      refine jw_iconst (p := 17) rfl jM237 jq237_16 ?_
      exact jw_iret jM237 jq237_17 (fun z => absurd z (by decide)) (k σ2 s3)
    exact absurd (by simp [jl_m237, c0, c1]) he
def jl_m238 : Nat → Int := fun e => if e = 0 then 1 else if e = 1 then 2 else 0
theorem jl238 {d : Nat} {L : Nat} {xs : Nat → Int32} {K : jc_K} {G : jg_G} {o : Int} {σ : ib_H} {Q : ib_O → Prop} {a1 : Int} {x : jc_K × (Int ⊕ Nat)} (ha1 : jb_r a1) (h : fc114 K a1 = some x) (he : ∀ e, x.2 = .inr e → jl_m238 e ≠ 0) (s : jl_S L xs K G o σ) (k : ∀ σ', jl_S L xs x.1 G (jl_wr jl_m238 o x.2).2 σ' → Q (.inl (some (jb_v (jl_wr jl_m238 o x.2).1)), σ')) : jb_w (d + 9) 238 0 [some (.ref 2), some (jb_v a1), some (.ref 119), none] [] σ Q := by
  refine jaL2 (p := 1) rfl jM238 jq238_0 ?_
  refine jw_iconst (p := 2) rfl jM238 jq238_1 ?_
  refine jaL0 (p := 3) rfl jM238 jq238_2 ?_
  refine jiL1 (p := 4) rfl jM238 jq238_3 ?_
  refine jw_callVH [(jb_v a1)] jM238 jq238_4 rfl rfl (jo_2 s.1) jM114 rfl rfl ?_
  refine jd114 ha1 h (fun σ2 s2 hv => ?_) σ s.c
  have s3 := s.c' s2
  obtain ⟨K2, x2⟩ := x
  cases x2 with
  | inl v =>
    have hv := hv v rfl
    show jb_w (d + 9) 238 7 [some (.ref 2), some (jb_v a1), some (.ref 119), none] (jb_v v :: [jb_v 0, .ref 119]) σ2 Q
    refine jw_i2l (p := 8) rfl jM238 jq238_7 ?_
    refine jw_last (p := 9) rfl jM238 jq238_8 s3 hv (fun σ4 s4 => ?_)
    refine jw_goto jM238 jq238_9 ?_
    refine jw_iconst (p := 19) rfl jM238 jq238_18 ?_
    exact jw_iret jM238 jq238_19 (fun z => absurd z (by decide)) (k σ4 s4)
  | inr e =>
    have he := he e rfl
    by_cases c0 : e = 0
    · subst c0
      refine ⟨12, rfl, Or.inl ⟨3, _, _, _, _, jq238_12, ?_⟩⟩
      show jb_w (d + 9) 238 13 [some (.ref 2), some (jb_v a1), some (.ref 119), none] [] σ2 Q
      refine jw_iconst (p := 14) rfl jM238 jq238_13 ?_
      exact jw_iret jM238 jq238_14 (fun z => absurd z (by decide)) (k σ2 s3)
    by_cases c1 : e = 1
    · subst c1
      refine ⟨15, rfl, Or.inl ⟨3, _, _, _, _, jq238_15, ?_⟩⟩
      show jb_w (d + 9) 238 16 [some (.ref 2), some (jb_v a1), some (.ref 119), none] [] σ2 Q
      refine jw_iconst (p := 17) rfl jM238 jq238_16 ?_
      exact jw_iret jM238 jq238_17 (fun z => absurd z (by decide)) (k σ2 s3)
    exact absurd (by simp [jl_m238, c0, c1]) he
def jl_m239 : Nat → Int := fun e => if e = 1 then 1 else 0
theorem jl239 {d : Nat} {L : Nat} {xs : Nat → Int32} {K : jc_K} {G : jg_G} {o : Int} {σ : ib_H} {Q : ib_O → Prop} {x : jc_K × (Int ⊕ Nat)} (h : fc115 K  = some x) (he : ∀ e, x.2 = .inr e → jl_m239 e ≠ 0) (s : jl_S L xs K G o σ) (k : ∀ σ', jl_S L xs x.1 G (jl_wr jl_m239 o x.2).2 σ' → Q (.inl (some (jb_v (jl_wr jl_m239 o x.2).1)), σ')) : jb_w (d + 8) 239 0 [some (.ref 2), some (.ref 119), none] [] σ Q := by
  refine jaL1 (p := 1) rfl jM239 jq239_0 ?_
  refine jw_iconst (p := 2) rfl jM239 jq239_1 ?_
  refine jaL0 (p := 3) rfl jM239 jq239_2 ?_
  refine jw_callVH [] jM239 jq239_3 rfl rfl (jo_2 s.1) jM115 rfl rfl ?_
  refine jd115  h (fun σ2 s2 hv => ?_) σ s.c
  have s3 := s.c' s2
  obtain ⟨K2, x2⟩ := x
  cases x2 with
  | inl v =>
    have hv := hv v rfl
    show jb_w (d + 8) 239 6 [some (.ref 2), some (.ref 119), none] (jb_v v :: [jb_v 0, .ref 119]) σ2 Q
    refine jw_i2l (p := 7) rfl jM239 jq239_6 ?_
    refine jw_last (p := 8) rfl jM239 jq239_7 s3 hv (fun σ4 s4 => ?_)
    refine jw_goto jM239 jq239_8 ?_
    refine jw_iconst (p := 15) rfl jM239 jq239_14 ?_
    exact jw_iret jM239 jq239_15 (fun z => absurd z (by decide)) (k σ4 s4)
  | inr e =>
    have he := he e rfl
    by_cases c1 : e = 1
    · subst c1
      refine ⟨11, rfl, Or.inl ⟨2, _, _, _, _, jq239_11, ?_⟩⟩
      show jb_w (d + 8) 239 12 [some (.ref 2), some (.ref 119), none] [] σ2 Q
      refine jw_iconst (p := 13) rfl jM239 jq239_12 ?_
      exact jw_iret jM239 jq239_13 (fun z => absurd z (by decide)) (k σ2 s3)
    exact absurd (by simp [jl_m239, c1]) he
def jl_m240 : Nat → Int := fun e => if e = 1 then 2 else if e = 2 then 1 else 0
theorem jl240 {d : Nat} {L : Nat} {xs : Nat → Int32} {K : jc_K} {G : jg_G} {o : Int} {σ : ib_H} {Q : ib_O → Prop} {a1 : Int} {x : jc_K × (Int ⊕ Nat)} (ha1 : jb_r a1) (h : fc116 K a1 = some x) (he : ∀ e, x.2 = .inr e → jl_m240 e ≠ 0) (s : jl_S L xs K G o σ) (k : ∀ σ', jl_S L xs x.1 G (jl_wr jl_m240 o x.2).2 σ' → Q (.inl (some (jb_v (jl_wr jl_m240 o x.2).1)), σ')) : jb_w (d + 8) 240 0 [some (.ref 2), some (jb_v a1), some (.ref 119), none] [] σ Q := by
  refine jaL2 (p := 1) rfl jM240 jq240_0 ?_
  refine jw_iconst (p := 2) rfl jM240 jq240_1 ?_
  refine jaL0 (p := 3) rfl jM240 jq240_2 ?_
  refine jiL1 (p := 4) rfl jM240 jq240_3 ?_
  refine jw_callVH [(jb_v a1)] jM240 jq240_4 rfl rfl (jo_2 s.1) jM116 rfl rfl ?_
  refine jd116 ha1 h (fun σ2 s2 hv => ?_) σ s.c
  have s3 := s.c' s2
  obtain ⟨K2, x2⟩ := x
  cases x2 with
  | inl v =>
    have hv := hv v rfl
    show jb_w (d + 8) 240 7 [some (.ref 2), some (jb_v a1), some (.ref 119), none] (jb_v v :: [jb_v 0, .ref 119]) σ2 Q
    refine jw_i2l (p := 8) rfl jM240 jq240_7 ?_
    refine jw_last (p := 9) rfl jM240 jq240_8 s3 hv (fun σ4 s4 => ?_)
    refine jw_goto jM240 jq240_9 ?_
    refine jw_iconst (p := 19) rfl jM240 jq240_18 ?_
    exact jw_iret jM240 jq240_19 (fun z => absurd z (by decide)) (k σ4 s4)
  | inr e =>
    have he := he e rfl
    by_cases c1 : e = 1
    · subst c1
      refine ⟨15, rfl, Or.inl ⟨3, _, _, _, _, jq240_15, ?_⟩⟩
      show jb_w (d + 8) 240 16 [some (.ref 2), some (jb_v a1), some (.ref 119), none] [] σ2 Q
      refine jw_iconst (p := 17) rfl jM240 jq240_16 ?_
      exact jw_iret jM240 jq240_17 (fun z => absurd z (by decide)) (k σ2 s3)
    by_cases c2 : e = 2
    · subst c2
      refine ⟨12, rfl, Or.inl ⟨3, _, _, _, _, jq240_12, ?_⟩⟩
      show jb_w (d + 8) 240 13 [some (.ref 2), some (jb_v a1), some (.ref 119), none] [] σ2 Q
      refine jw_iconst (p := 14) rfl jM240 jq240_13 ?_
      exact jw_iret jM240 jq240_14 (fun z => absurd z (by decide)) (k σ2 s3)
    exact absurd (by simp [jl_m240, c1, c2]) he
def jl_m241 : Nat → Int := fun e => if e = 0 then 1 else 0
theorem jl241 {d : Nat} {L : Nat} {xs : Nat → Int32} {K : jc_K} {G : jg_G} {o : Int} {σ : ib_H} {Q : ib_O → Prop} {a1 : Int} {x : jc_K × (Int ⊕ Nat)} (ha1 : jb_r a1) (h : fc117 K a1 = some x) (he : ∀ e, x.2 = .inr e → jl_m241 e ≠ 0) (s : jl_S L xs K G o σ) (k : ∀ σ', jl_S L xs x.1 G o σ' → Q (.inl (some (jb_v (jl_wr jl_m241 o x.2).1)), σ')) : jb_w (d + 7) 241 0 [some (.ref 2), some (jb_v a1), none] [] σ Q := by
  refine jaL0 (p := 1) rfl jM241 jq241_0 ?_
  refine jiL1 (p := 2) rfl jM241 jq241_1 ?_
  refine jw_callVH [(jb_v a1)] jM241 jq241_2 rfl rfl (jo_2 s.1) jM117 rfl rfl ?_
  refine jd117 ha1 h (fun σ2 s2 hv => ?_) σ s.c
  have s3 := s.c' s2
  obtain ⟨K2, x2⟩ := x
  cases x2 with
  | inl v =>
    show jb_w (d + 7) 241 5 [some (.ref 2), some (jb_v a1), none] [] σ2 Q
    refine jw_goto jM241 jq241_5 ?_
    refine jw_iconst (p := 12) rfl jM241 jq241_11 ?_
    exact jw_iret jM241 jq241_12 (fun z => absurd z (by decide)) (k σ2 s3)
  | inr e =>
    have he := he e rfl
    by_cases c0 : e = 0
    · subst c0
      refine ⟨8, rfl, Or.inl ⟨2, _, _, _, _, jq241_8, ?_⟩⟩
      show jb_w (d + 7) 241 9 [some (.ref 2), some (jb_v a1), none] [] σ2 Q
      refine jw_iconst (p := 10) rfl jM241 jq241_9 ?_
      exact jw_iret jM241 jq241_10 (fun z => absurd z (by decide)) (k σ2 s3)
    exact absurd (by simp [jl_m241, c0]) he
def jl_m242 : Nat → Int := fun e => if e = 1 then 1 else 0
theorem jl242 {d : Nat} {L : Nat} {xs : Nat → Int32} {K : jc_K} {G : jg_G} {o : Int} {σ : ib_H} {Q : ib_O → Prop} {x : jc_K × (Int ⊕ Nat)} (h : fc119 K  = some x) (he : ∀ e, x.2 = .inr e → jl_m242 e ≠ 0) (s : jl_S L xs K G o σ) (k : ∀ σ', jl_S L xs x.1 G (jl_wr jl_m242 o x.2).2 σ' → Q (.inl (some (jb_v (jl_wr jl_m242 o x.2).1)), σ')) : jb_w (d + 7) 242 0 [some (.ref 2), some (.ref 119), none] [] σ Q := by
  refine jaL1 (p := 1) rfl jM242 jq242_0 ?_
  refine jw_iconst (p := 2) rfl jM242 jq242_1 ?_
  refine jaL0 (p := 3) rfl jM242 jq242_2 ?_
  refine jw_callVH [] jM242 jq242_3 rfl rfl (jo_2 s.1) jM119 rfl rfl ?_
  refine jd119  h (fun σ2 s2 hv => ?_) σ s.c
  have s3 := s.c' s2
  obtain ⟨K2, x2⟩ := x
  cases x2 with
  | inl v =>
    have hv := hv v rfl
    show jb_w (d + 7) 242 6 [some (.ref 2), some (.ref 119), none] (jb_v v :: [jb_v 0, .ref 119]) σ2 Q
    refine jw_i2l (p := 7) rfl jM242 jq242_6 ?_
    refine jw_last (p := 8) rfl jM242 jq242_7 s3 hv (fun σ4 s4 => ?_)
    refine jw_goto jM242 jq242_8 ?_
    refine jw_iconst (p := 15) rfl jM242 jq242_14 ?_
    exact jw_iret jM242 jq242_15 (fun z => absurd z (by decide)) (k σ4 s4)
  | inr e =>
    have he := he e rfl
    by_cases c1 : e = 1
    · subst c1
      refine ⟨11, rfl, Or.inl ⟨2, _, _, _, _, jq242_11, ?_⟩⟩
      show jb_w (d + 7) 242 12 [some (.ref 2), some (.ref 119), none] [] σ2 Q
      refine jw_iconst (p := 13) rfl jM242 jq242_12 ?_
      exact jw_iret jM242 jq242_13 (fun z => absurd z (by decide)) (k σ2 s3)
    exact absurd (by simp [jl_m242, c1]) he
def jl_m243 : Nat → Int := fun e => if e = 0 then 1 else 0
theorem jl243 {d : Nat} {L : Nat} {xs : Nat → Int32} {K : jc_K} {G : jg_G} {o : Int} {σ : ib_H} {Q : ib_O → Prop} {a1 : Int} {x : jc_K × (Int ⊕ Nat)} (ha1 : jb_r a1) (h : fc120 K a1 = some x) (he : ∀ e, x.2 = .inr e → jl_m243 e ≠ 0) (s : jl_S L xs K G o σ) (k : ∀ σ', jl_S L xs x.1 G (jl_wr jl_m243 o x.2).2 σ' → Q (.inl (some (jb_v (jl_wr jl_m243 o x.2).1)), σ')) : jb_w (d + 7) 243 0 [some (.ref 2), some (jb_v a1), some (.ref 119), none] [] σ Q := by
  refine jaL2 (p := 1) rfl jM243 jq243_0 ?_
  refine jw_iconst (p := 2) rfl jM243 jq243_1 ?_
  refine jaL0 (p := 3) rfl jM243 jq243_2 ?_
  refine jiL1 (p := 4) rfl jM243 jq243_3 ?_
  refine jw_callVH [(jb_v a1)] jM243 jq243_4 rfl rfl (jo_2 s.1) jM120 rfl rfl ?_
  refine jd120 ha1 h (fun σ2 s2 hv => ?_) σ s.c
  have s3 := s.c' s2
  obtain ⟨K2, x2⟩ := x
  cases x2 with
  | inl v =>
    have hv := hv v rfl
    show jb_w (d + 7) 243 7 [some (.ref 2), some (jb_v a1), some (.ref 119), none] (jb_v v :: [jb_v 0, .ref 119]) σ2 Q
    refine jw_i2l (p := 8) rfl jM243 jq243_7 ?_
    refine jw_last (p := 9) rfl jM243 jq243_8 s3 hv (fun σ4 s4 => ?_)
    refine jw_goto jM243 jq243_9 ?_
    refine jw_iconst (p := 16) rfl jM243 jq243_15 ?_
    exact jw_iret jM243 jq243_16 (fun z => absurd z (by decide)) (k σ4 s4)
  | inr e =>
    have he := he e rfl
    by_cases c0 : e = 0
    · subst c0
      refine ⟨12, rfl, Or.inl ⟨3, _, _, _, _, jq243_12, ?_⟩⟩
      show jb_w (d + 7) 243 13 [some (.ref 2), some (jb_v a1), some (.ref 119), none] [] σ2 Q
      refine jw_iconst (p := 14) rfl jM243 jq243_13 ?_
      exact jw_iret jM243 jq243_14 (fun z => absurd z (by decide)) (k σ2 s3)
    exact absurd (by simp [jl_m243, c0]) he
def jl_m244 : Nat → Int := fun e => if e = 0 then 2 else if e = 2 then 1 else 0
theorem jl244 {d : Nat} {L : Nat} {xs : Nat → Int32} {K : jc_K} {G : jg_G} {o : Int} {σ : ib_H} {Q : ib_O → Prop} {a1 : Int} {a2 : Int} {x : jc_K × (Int ⊕ Nat)} (ha1 : jb_r a1) (ha2 : jb_r a2) (h : fc121 K a1 a2 = some x) (he : ∀ e, x.2 = .inr e → jl_m244 e ≠ 0) (s : jl_S L xs K G o σ) (k : ∀ σ', jl_S L xs x.1 G (jl_wr jl_m244 o x.2).2 σ' → Q (.inl (some (jb_v (jl_wr jl_m244 o x.2).1)), σ')) : jb_w (d + 8) 244 0 [some (.ref 2), some (jb_v a1), some (jb_v a2), some (.ref 119), none] [] σ Q := by
  refine jaL3 (p := 1) rfl jM244 jq244_0 ?_
  refine jw_iconst (p := 2) rfl jM244 jq244_1 ?_
  refine jaL0 (p := 3) rfl jM244 jq244_2 ?_
  refine jiL1 (p := 4) rfl jM244 jq244_3 ?_
  refine jiL2 (p := 5) rfl jM244 jq244_4 ?_
  refine jw_callVH [(jb_v a1), (jb_v a2)] jM244 jq244_5 rfl rfl (jo_2 s.1) jM121 rfl rfl ?_
  refine jd121 ha1 ha2 h (fun σ2 s2 hv => ?_) σ s.c
  have s3 := s.c' s2
  obtain ⟨K2, x2⟩ := x
  cases x2 with
  | inl v =>
    have hv := hv v rfl
    show jb_w (d + 8) 244 8 [some (.ref 2), some (jb_v a1), some (jb_v a2), some (.ref 119), none] (jb_v v :: [jb_v 0, .ref 119]) σ2 Q
    refine jw_i2l (p := 9) rfl jM244 jq244_8 ?_
    refine jw_last (p := 10) rfl jM244 jq244_9 s3 hv (fun σ4 s4 => ?_)
    refine jw_goto jM244 jq244_10 ?_
    refine jw_iconst (p := 22) rfl jM244 jq244_21 ?_
    exact jw_iret jM244 jq244_22 (fun z => absurd z (by decide)) (k σ4 s4)
  | inr e =>
    have he := he e rfl
    by_cases c0 : e = 0
    · subst c0
      refine ⟨17, rfl, Or.inr ⟨4, _, _, _, _, jq244_17, ?_⟩⟩
      show jb_w (d + 8) 244 19 [some (.ref 2), some (jb_v a1), some (jb_v a2), some (.ref 119), none] [] σ2 Q
      refine jw_iconst (p := 20) rfl jM244 jq244_19 ?_
      exact jw_iret jM244 jq244_20 (fun z => absurd z (by decide)) (k σ2 s3)
    by_cases c2 : e = 2
    · subst c2
      refine ⟨13, rfl, Or.inr ⟨4, _, _, _, _, jq244_13, ?_⟩⟩
      show jb_w (d + 8) 244 15 [some (.ref 2), some (jb_v a1), some (jb_v a2), some (.ref 119), none] [] σ2 Q
      refine jw_iconst (p := 16) rfl jM244 jq244_15 ?_
      exact jw_iret jM244 jq244_16 (fun z => absurd z (by decide)) (k σ2 s3)
    exact absurd (by simp [jl_m244, c0, c2]) he
def jl_m245 : Nat → Int := fun e => if e = 2 then 1 else 0
theorem jl245 {d : Nat} {L : Nat} {xs : Nat → Int32} {K : jc_K} {G : jg_G} {o : Int} {σ : ib_H} {Q : ib_O → Prop} {a1 : Int} {a2 : Int} {x : jc_K × (Int ⊕ Nat)} (ha1 : jb_r a1) (ha2 : jb_r a2) (h : fc122 K a1 a2 = some x) (he : ∀ e, x.2 = .inr e → jl_m245 e ≠ 0) (s : jl_S L xs K G o σ) (k : ∀ σ', jl_S L xs x.1 G (jl_wr jl_m245 o x.2).2 σ' → Q (.inl (some (jb_v (jl_wr jl_m245 o x.2).1)), σ')) : jb_w (d + 8) 245 0 [some (.ref 2), some (jb_v a1), some (jb_v a2), some (.ref 119), none] [] σ Q := by
  refine jaL3 (p := 1) rfl jM245 jq245_0 ?_
  refine jw_iconst (p := 2) rfl jM245 jq245_1 ?_
  refine jaL0 (p := 3) rfl jM245 jq245_2 ?_
  refine jiL1 (p := 4) rfl jM245 jq245_3 ?_
  refine jiL2 (p := 5) rfl jM245 jq245_4 ?_
  refine jw_callVH [(jb_v a1), (jb_v a2)] jM245 jq245_5 rfl rfl (jo_2 s.1) jM122 rfl rfl ?_
  refine jd122 ha1 ha2 h (fun σ2 s2 hv => ?_) σ s.c
  have s3 := s.c' s2
  obtain ⟨K2, x2⟩ := x
  cases x2 with
  | inl v =>
    have hv := hv v rfl
    show jb_w (d + 8) 245 8 [some (.ref 2), some (jb_v a1), some (jb_v a2), some (.ref 119), none] (jb_v v :: [jb_v 0, .ref 119]) σ2 Q
    refine jw_i2l (p := 9) rfl jM245 jq245_8 ?_
    refine jw_last (p := 10) rfl jM245 jq245_9 s3 hv (fun σ4 s4 => ?_)
    refine jw_goto jM245 jq245_10 ?_
    refine jw_iconst (p := 18) rfl jM245 jq245_17 ?_
    exact jw_iret jM245 jq245_18 (fun z => absurd z (by decide)) (k σ4 s4)
  | inr e =>
    have he := he e rfl
    by_cases c2 : e = 2
    · subst c2
      refine ⟨13, rfl, Or.inr ⟨4, _, _, _, _, jq245_13, ?_⟩⟩
      show jb_w (d + 8) 245 15 [some (.ref 2), some (jb_v a1), some (jb_v a2), some (.ref 119), none] [] σ2 Q
      refine jw_iconst (p := 16) rfl jM245 jq245_15 ?_
      exact jw_iret jM245 jq245_16 (fun z => absurd z (by decide)) (k σ2 s3)
    exact absurd (by simp [jl_m245, c2]) he
def jl_m246 : Nat → Int := fun e => if e = 0 then 2 else if e = 2 then 1 else 0
theorem jl246 {d : Nat} {L : Nat} {xs : Nat → Int32} {K : jc_K} {G : jg_G} {o : Int} {σ : ib_H} {Q : ib_O → Prop} {a1 : Int} {a2 : Int} {x : jc_K × (Int ⊕ Nat)} (ha1 : jb_r a1) (ha2 : jb_r a2) (h : fc123 K a1 a2 = some x) (he : ∀ e, x.2 = .inr e → jl_m246 e ≠ 0) (s : jl_S L xs K G o σ) (k : ∀ σ', jl_S L xs x.1 G (jl_wr jl_m246 o x.2).2 σ' → Q (.inl (some (jb_v (jl_wr jl_m246 o x.2).1)), σ')) : jb_w (d + 7) 246 0 [some (.ref 2), some (jb_v a1), some (jb_v a2), some (.ref 119), none] [] σ Q := by
  refine jaL3 (p := 1) rfl jM246 jq246_0 ?_
  refine jw_iconst (p := 2) rfl jM246 jq246_1 ?_
  refine jaL0 (p := 3) rfl jM246 jq246_2 ?_
  refine jiL1 (p := 4) rfl jM246 jq246_3 ?_
  refine jiL2 (p := 5) rfl jM246 jq246_4 ?_
  refine jw_callVH [(jb_v a1), (jb_v a2)] jM246 jq246_5 rfl rfl (jo_2 s.1) jM123 rfl rfl ?_
  refine jd123 ha1 ha2 h (fun σ2 s2 hv => ?_) σ s.c
  have s3 := s.c' s2
  obtain ⟨K2, x2⟩ := x
  cases x2 with
  | inl v =>
    have hv := hv v rfl
    show jb_w (d + 7) 246 8 [some (.ref 2), some (jb_v a1), some (jb_v a2), some (.ref 119), none] (jb_v v :: [jb_v 0, .ref 119]) σ2 Q
    refine jw_i2l (p := 9) rfl jM246 jq246_8 ?_
    refine jw_last (p := 10) rfl jM246 jq246_9 s3 hv (fun σ4 s4 => ?_)
    refine jw_goto jM246 jq246_10 ?_
    refine jw_iconst (p := 22) rfl jM246 jq246_21 ?_
    exact jw_iret jM246 jq246_22 (fun z => absurd z (by decide)) (k σ4 s4)
  | inr e =>
    have he := he e rfl
    by_cases c0 : e = 0
    · subst c0
      refine ⟨17, rfl, Or.inr ⟨4, _, _, _, _, jq246_17, ?_⟩⟩
      show jb_w (d + 7) 246 19 [some (.ref 2), some (jb_v a1), some (jb_v a2), some (.ref 119), none] [] σ2 Q
      refine jw_iconst (p := 20) rfl jM246 jq246_19 ?_
      exact jw_iret jM246 jq246_20 (fun z => absurd z (by decide)) (k σ2 s3)
    by_cases c2 : e = 2
    · subst c2
      refine ⟨13, rfl, Or.inr ⟨4, _, _, _, _, jq246_13, ?_⟩⟩
      show jb_w (d + 7) 246 15 [some (.ref 2), some (jb_v a1), some (jb_v a2), some (.ref 119), none] [] σ2 Q
      refine jw_iconst (p := 16) rfl jM246 jq246_15 ?_
      exact jw_iret jM246 jq246_16 (fun z => absurd z (by decide)) (k σ2 s3)
    exact absurd (by simp [jl_m246, c0, c2]) he
def jl_m247 : Nat → Int := fun e => if e = 0 then 2 else if e = 2 then 1 else 0
theorem jl247 {d : Nat} {L : Nat} {xs : Nat → Int32} {K : jc_K} {G : jg_G} {o : Int} {σ : ib_H} {Q : ib_O → Prop} {a1 : Int} {a2 : Int} {x : jc_K × (Int ⊕ Nat)} (ha1 : jb_r a1) (ha2 : jb_r a2) (h : fc125 K a1 a2 = some x) (he : ∀ e, x.2 = .inr e → jl_m247 e ≠ 0) (s : jl_S L xs K G o σ) (k : ∀ σ', jl_S L xs x.1 G (jl_wr jl_m247 o x.2).2 σ' → Q (.inl (some (jb_v (jl_wr jl_m247 o x.2).1)), σ')) : jb_w (d + 7) 247 0 [some (.ref 2), some (jb_v a1), some (jb_v a2), some (.ref 119), none] [] σ Q := by
  refine jaL3 (p := 1) rfl jM247 jq247_0 ?_
  refine jw_iconst (p := 2) rfl jM247 jq247_1 ?_
  refine jaL0 (p := 3) rfl jM247 jq247_2 ?_
  refine jiL1 (p := 4) rfl jM247 jq247_3 ?_
  refine jiL2 (p := 5) rfl jM247 jq247_4 ?_
  refine jw_callVH [(jb_v a1), (jb_v a2)] jM247 jq247_5 rfl rfl (jo_2 s.1) jM125 rfl rfl ?_
  refine jd125 ha1 ha2 h (fun σ2 s2 hv => ?_) σ s.c
  have s3 := s.c' s2
  obtain ⟨K2, x2⟩ := x
  cases x2 with
  | inl v =>
    have hv := hv v rfl
    show jb_w (d + 7) 247 8 [some (.ref 2), some (jb_v a1), some (jb_v a2), some (.ref 119), none] (jb_v v :: [jb_v 0, .ref 119]) σ2 Q
    refine jw_i2l (p := 9) rfl jM247 jq247_8 ?_
    refine jw_last (p := 10) rfl jM247 jq247_9 s3 hv (fun σ4 s4 => ?_)
    refine jw_goto jM247 jq247_10 ?_
    refine jw_iconst (p := 22) rfl jM247 jq247_21 ?_
    exact jw_iret jM247 jq247_22 (fun z => absurd z (by decide)) (k σ4 s4)
  | inr e =>
    have he := he e rfl
    by_cases c0 : e = 0
    · subst c0
      refine ⟨17, rfl, Or.inr ⟨4, _, _, _, _, jq247_17, ?_⟩⟩
      show jb_w (d + 7) 247 19 [some (.ref 2), some (jb_v a1), some (jb_v a2), some (.ref 119), none] [] σ2 Q
      refine jw_iconst (p := 20) rfl jM247 jq247_19 ?_
      exact jw_iret jM247 jq247_20 (fun z => absurd z (by decide)) (k σ2 s3)
    by_cases c2 : e = 2
    · subst c2
      refine ⟨13, rfl, Or.inr ⟨4, _, _, _, _, jq247_13, ?_⟩⟩
      show jb_w (d + 7) 247 15 [some (.ref 2), some (jb_v a1), some (jb_v a2), some (.ref 119), none] [] σ2 Q
      refine jw_iconst (p := 16) rfl jM247 jq247_15 ?_
      exact jw_iret jM247 jq247_16 (fun z => absurd z (by decide)) (k σ2 s3)
    exact absurd (by simp [jl_m247, c0, c2]) he
def jl_m248 : Nat → Int := fun e => if e = 0 then 1 else 0
theorem jl248 {d : Nat} {L : Nat} {xs : Nat → Int32} {K : jc_K} {G : jg_G} {o : Int} {σ : ib_H} {Q : ib_O → Prop} {a1 : Int} {x : jc_K × (Int ⊕ Nat)} (ha1 : jb_r a1) (h : fc129 K a1 = some x) (he : ∀ e, x.2 = .inr e → jl_m248 e ≠ 0) (s : jl_S L xs K G o σ) (k : ∀ σ', jl_S L xs x.1 G (jl_wr jl_m248 o x.2).2 σ' → Q (.inl (some (jb_v (jl_wr jl_m248 o x.2).1)), σ')) : jb_w (d + 8) 248 0 [some (.ref 2), some (jb_v a1), some (.ref 119), none] [] σ Q := by
  refine jaL2 (p := 1) rfl jM248 jq248_0 ?_
  refine jw_iconst (p := 2) rfl jM248 jq248_1 ?_
  refine jaL0 (p := 3) rfl jM248 jq248_2 ?_
  refine jiL1 (p := 4) rfl jM248 jq248_3 ?_
  refine jw_callVH [(jb_v a1)] jM248 jq248_4 rfl rfl (jo_2 s.1) jM129 rfl rfl ?_
  refine jd129 ha1 h (fun σ2 s2 hv => ?_) σ s.c
  have s3 := s.c' s2
  obtain ⟨K2, x2⟩ := x
  cases x2 with
  | inl v =>
    have hv := hv v rfl
    show jb_w (d + 8) 248 7 [some (.ref 2), some (jb_v a1), some (.ref 119), none] (jb_v v :: [jb_v 0, .ref 119]) σ2 Q
    refine jw_i2l (p := 8) rfl jM248 jq248_7 ?_
    refine jw_last (p := 9) rfl jM248 jq248_8 s3 hv (fun σ4 s4 => ?_)
    refine jw_goto jM248 jq248_9 ?_
    refine jw_iconst (p := 16) rfl jM248 jq248_15 ?_
    exact jw_iret jM248 jq248_16 (fun z => absurd z (by decide)) (k σ4 s4)
  | inr e =>
    have he := he e rfl
    by_cases c0 : e = 0
    · subst c0
      refine ⟨12, rfl, Or.inl ⟨3, _, _, _, _, jq248_12, ?_⟩⟩
      show jb_w (d + 8) 248 13 [some (.ref 2), some (jb_v a1), some (.ref 119), none] [] σ2 Q
      refine jw_iconst (p := 14) rfl jM248 jq248_13 ?_
      exact jw_iret jM248 jq248_14 (fun z => absurd z (by decide)) (k σ2 s3)
    exact absurd (by simp [jl_m248, c0]) he
def jl_m249 : Nat → Int := fun e => if e = 0 then 1 else 0
theorem jl249 {d : Nat} {L : Nat} {xs : Nat → Int32} {K : jc_K} {G : jg_G} {o : Int} {σ : ib_H} {Q : ib_O → Prop} {a1 : Int} {x : jc_K × (Int ⊕ Nat)} (ha1 : jb_r a1) (h : fc130 K a1 = some x) (he : ∀ e, x.2 = .inr e → jl_m249 e ≠ 0) (s : jl_S L xs K G o σ) (k : ∀ σ', jl_S L xs x.1 G (jl_wr jl_m249 o x.2).2 σ' → Q (.inl (some (jb_v (jl_wr jl_m249 o x.2).1)), σ')) : jb_w (d + 8) 249 0 [some (.ref 2), some (jb_v a1), some (.ref 119), none] [] σ Q := by
  refine jaL2 (p := 1) rfl jM249 jq249_0 ?_
  refine jw_iconst (p := 2) rfl jM249 jq249_1 ?_
  refine jaL0 (p := 3) rfl jM249 jq249_2 ?_
  refine jiL1 (p := 4) rfl jM249 jq249_3 ?_
  refine jw_callVH [(jb_v a1)] jM249 jq249_4 rfl rfl (jo_2 s.1) jM130 rfl rfl ?_
  refine jd130 ha1 h (fun σ2 s2 hv => ?_) σ s.c
  have s3 := s.c' s2
  obtain ⟨K2, x2⟩ := x
  cases x2 with
  | inl v =>
    have hv := hv v rfl
    show jb_w (d + 8) 249 7 [some (.ref 2), some (jb_v a1), some (.ref 119), none] (jb_v v :: [jb_v 0, .ref 119]) σ2 Q
    refine jw_i2l (p := 8) rfl jM249 jq249_7 ?_
    refine jw_last (p := 9) rfl jM249 jq249_8 s3 hv (fun σ4 s4 => ?_)
    refine jw_goto jM249 jq249_9 ?_
    refine jw_iconst (p := 16) rfl jM249 jq249_15 ?_
    exact jw_iret jM249 jq249_16 (fun z => absurd z (by decide)) (k σ4 s4)
  | inr e =>
    have he := he e rfl
    by_cases c0 : e = 0
    · subst c0
      refine ⟨12, rfl, Or.inl ⟨3, _, _, _, _, jq249_12, ?_⟩⟩
      show jb_w (d + 8) 249 13 [some (.ref 2), some (jb_v a1), some (.ref 119), none] [] σ2 Q
      refine jw_iconst (p := 14) rfl jM249 jq249_13 ?_
      exact jw_iret jM249 jq249_14 (fun z => absurd z (by decide)) (k σ2 s3)
    exact absurd (by simp [jl_m249, c0]) he
def jl_m250 : Nat → Int := fun e => if e = 0 then 1 else 0
theorem jl250 {d : Nat} {L : Nat} {xs : Nat → Int32} {K : jc_K} {G : jg_G} {o : Int} {σ : ib_H} {Q : ib_O → Prop} {a1 : Int} {x : jc_K × (Int ⊕ Nat)} (ha1 : jb_r a1) (h : fc131 K a1 = some x) (he : ∀ e, x.2 = .inr e → jl_m250 e ≠ 0) (s : jl_S L xs K G o σ) (k : ∀ σ', jl_S L xs x.1 G (jl_wr jl_m250 o x.2).2 σ' → Q (.inl (some (jb_v (jl_wr jl_m250 o x.2).1)), σ')) : jb_w (d + 8) 250 0 [some (.ref 2), some (jb_v a1), some (.ref 119), none] [] σ Q := by
  refine jaL2 (p := 1) rfl jM250 jq250_0 ?_
  refine jw_iconst (p := 2) rfl jM250 jq250_1 ?_
  refine jaL0 (p := 3) rfl jM250 jq250_2 ?_
  refine jiL1 (p := 4) rfl jM250 jq250_3 ?_
  refine jw_callVH [(jb_v a1)] jM250 jq250_4 rfl rfl (jo_2 s.1) jM131 rfl rfl ?_
  refine jd131 ha1 h (fun σ2 s2 hv => ?_) σ s.c
  have s3 := s.c' s2
  obtain ⟨K2, x2⟩ := x
  cases x2 with
  | inl v =>
    have hv := hv v rfl
    show jb_w (d + 8) 250 7 [some (.ref 2), some (jb_v a1), some (.ref 119), none] (jb_v v :: [jb_v 0, .ref 119]) σ2 Q
    refine jw_i2l (p := 8) rfl jM250 jq250_7 ?_
    refine jw_last (p := 9) rfl jM250 jq250_8 s3 hv (fun σ4 s4 => ?_)
    refine jw_goto jM250 jq250_9 ?_
    refine jw_iconst (p := 16) rfl jM250 jq250_15 ?_
    exact jw_iret jM250 jq250_16 (fun z => absurd z (by decide)) (k σ4 s4)
  | inr e =>
    have he := he e rfl
    by_cases c0 : e = 0
    · subst c0
      refine ⟨12, rfl, Or.inl ⟨3, _, _, _, _, jq250_12, ?_⟩⟩
      show jb_w (d + 8) 250 13 [some (.ref 2), some (jb_v a1), some (.ref 119), none] [] σ2 Q
      refine jw_iconst (p := 14) rfl jM250 jq250_13 ?_
      exact jw_iret jM250 jq250_14 (fun z => absurd z (by decide)) (k σ2 s3)
    exact absurd (by simp [jl_m250, c0]) he
