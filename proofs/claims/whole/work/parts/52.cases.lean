/-! the cases of the law's switch: written by wip/tools/genl.py -/
def jl_cmp (mp : Nat → Int) (x : jc_K × (Int ⊕ Nat)) (y : jg_G × Int) : Option (jc_K × jg_G) := match x.2 with
  | .inl v => if y.1 92 0 = 0 ∧ v = y.2 then some (x.1, y.1) else none
  | .inr e => if mp e ≠ 0 ∧ y.1 92 0 = mp e then some (x.1, y.1) else none
def jl_cmv (mp : Nat → Int) (x : jc_K × (Int ⊕ Nat)) (y : jg_G × Int) : Option (jc_K × jg_G) := match x.2 with
  | .inl _ => if y.1 92 0 = 0 then some (x.1, y.1) else none
  | .inr e => if mp e ≠ 0 ∧ y.1 92 0 = mp e then some (x.1, y.1) else none
theorem jl_cmp_e {mp : Nat → Int} {x : jc_K × (Int ⊕ Nat)} {y : jg_G × Int} {r : jc_K × jg_G} (o : Int) (h : jl_cmp mp x y = some r) : r = (x.1, y.1) ∧ (∀ e, x.2 = .inr e → mp e ≠ 0) ∧ y.1 92 0 = (jl_wr mp o x.2).1 ∧ ((jl_wr mp o x.2).1 = 0 → (jl_wr mp o x.2).2 = y.2) := by
  obtain ⟨K, x⟩ := x
  unfold jl_cmp at h
  cases x with
  | inl v =>
    obtain ⟨c, h1⟩ := jo_i h
    cases h1
    exact ⟨rfl, fun e z => (by cases z), c.1, fun _ => c.2⟩
  | inr e =>
    obtain ⟨c, h1⟩ := jo_i h
    cases h1
    exact ⟨rfl, fun e z => (by cases z; exact c.1), c.2, fun z => absurd z c.1⟩
theorem jl_cmv_e {mp : Nat → Int} {x : jc_K × (Int ⊕ Nat)} {y : jg_G × Int} {r : jc_K × jg_G} (o : Int) (h : jl_cmv mp x y = some r) : r = (x.1, y.1) ∧ (∀ e, x.2 = .inr e → mp e ≠ 0) ∧ y.1 92 0 = (jl_wr mp o x.2).1 := by
  obtain ⟨K, x⟩ := x
  unfold jl_cmv at h
  cases x with
  | inl v =>
    obtain ⟨c, h1⟩ := jo_i h
    cases h1
    exact ⟨rfl, fun e z => (by cases z), c⟩
  | inr e =>
    obtain ⟨c, h1⟩ := jo_i h
    cases h1
    exact ⟨rfl, fun e z => (by cases z; exact c.1), c.2⟩
theorem jl_m231_r (o : Int) (x : Int ⊕ Nat) : jb_r (jl_wr jl_m231 o x).1 := by
  cases x with
  | inl v => exact jb_r0
  | inr e =>
    show jb_r (jl_m231 e)
    unfold jl_m231
    repeat' split
    all_goals exact ⟨by decide, by decide⟩
theorem jl_m232_r (o : Int) (x : Int ⊕ Nat) : jb_r (jl_wr jl_m232 o x).1 := by
  cases x with
  | inl v => exact jb_r0
  | inr e =>
    show jb_r (jl_m232 e)
    unfold jl_m232
    repeat' split
    all_goals exact ⟨by decide, by decide⟩
theorem jl_m233_r (o : Int) (x : Int ⊕ Nat) : jb_r (jl_wr jl_m233 o x).1 := by
  cases x with
  | inl v => exact jb_r0
  | inr e =>
    show jb_r (jl_m233 e)
    unfold jl_m233
    repeat' split
    all_goals exact ⟨by decide, by decide⟩
theorem jl_m234_r (o : Int) (x : Int ⊕ Nat) : jb_r (jl_wr jl_m234 o x).1 := by
  cases x with
  | inl v => exact jb_r0
  | inr e =>
    show jb_r (jl_m234 e)
    unfold jl_m234
    repeat' split
    all_goals exact ⟨by decide, by decide⟩
theorem jl_m235_r (o : Int) (x : Int ⊕ Nat) : jb_r (jl_wr jl_m235 o x).1 := by
  cases x with
  | inl v => exact jb_r0
  | inr e =>
    show jb_r (jl_m235 e)
    unfold jl_m235
    repeat' split
    all_goals exact ⟨by decide, by decide⟩
theorem jl_m236_r (o : Int) (x : Int ⊕ Nat) : jb_r (jl_wr jl_m236 o x).1 := by
  cases x with
  | inl v => exact jb_r0
  | inr e =>
    show jb_r (jl_m236 e)
    unfold jl_m236
    repeat' split
    all_goals exact ⟨by decide, by decide⟩
theorem jl_m237_r (o : Int) (x : Int ⊕ Nat) : jb_r (jl_wr jl_m237 o x).1 := by
  cases x with
  | inl v => exact jb_r0
  | inr e =>
    show jb_r (jl_m237 e)
    unfold jl_m237
    repeat' split
    all_goals exact ⟨by decide, by decide⟩
theorem jl_m238_r (o : Int) (x : Int ⊕ Nat) : jb_r (jl_wr jl_m238 o x).1 := by
  cases x with
  | inl v => exact jb_r0
  | inr e =>
    show jb_r (jl_m238 e)
    unfold jl_m238
    repeat' split
    all_goals exact ⟨by decide, by decide⟩
theorem jl_m239_r (o : Int) (x : Int ⊕ Nat) : jb_r (jl_wr jl_m239 o x).1 := by
  cases x with
  | inl v => exact jb_r0
  | inr e =>
    show jb_r (jl_m239 e)
    unfold jl_m239
    repeat' split
    all_goals exact ⟨by decide, by decide⟩
theorem jl_m240_r (o : Int) (x : Int ⊕ Nat) : jb_r (jl_wr jl_m240 o x).1 := by
  cases x with
  | inl v => exact jb_r0
  | inr e =>
    show jb_r (jl_m240 e)
    unfold jl_m240
    repeat' split
    all_goals exact ⟨by decide, by decide⟩
theorem jl_m241_r (o : Int) (x : Int ⊕ Nat) : jb_r (jl_wr jl_m241 o x).1 := by
  cases x with
  | inl v => exact jb_r0
  | inr e =>
    show jb_r (jl_m241 e)
    unfold jl_m241
    repeat' split
    all_goals exact ⟨by decide, by decide⟩
theorem jl_m242_r (o : Int) (x : Int ⊕ Nat) : jb_r (jl_wr jl_m242 o x).1 := by
  cases x with
  | inl v => exact jb_r0
  | inr e =>
    show jb_r (jl_m242 e)
    unfold jl_m242
    repeat' split
    all_goals exact ⟨by decide, by decide⟩
theorem jl_m243_r (o : Int) (x : Int ⊕ Nat) : jb_r (jl_wr jl_m243 o x).1 := by
  cases x with
  | inl v => exact jb_r0
  | inr e =>
    show jb_r (jl_m243 e)
    unfold jl_m243
    repeat' split
    all_goals exact ⟨by decide, by decide⟩
theorem jl_m244_r (o : Int) (x : Int ⊕ Nat) : jb_r (jl_wr jl_m244 o x).1 := by
  cases x with
  | inl v => exact jb_r0
  | inr e =>
    show jb_r (jl_m244 e)
    unfold jl_m244
    repeat' split
    all_goals exact ⟨by decide, by decide⟩
theorem jl_m245_r (o : Int) (x : Int ⊕ Nat) : jb_r (jl_wr jl_m245 o x).1 := by
  cases x with
  | inl v => exact jb_r0
  | inr e =>
    show jb_r (jl_m245 e)
    unfold jl_m245
    repeat' split
    all_goals exact ⟨by decide, by decide⟩
theorem jl_m246_r (o : Int) (x : Int ⊕ Nat) : jb_r (jl_wr jl_m246 o x).1 := by
  cases x with
  | inl v => exact jb_r0
  | inr e =>
    show jb_r (jl_m246 e)
    unfold jl_m246
    repeat' split
    all_goals exact ⟨by decide, by decide⟩
theorem jl_m247_r (o : Int) (x : Int ⊕ Nat) : jb_r (jl_wr jl_m247 o x).1 := by
  cases x with
  | inl v => exact jb_r0
  | inr e =>
    show jb_r (jl_m247 e)
    unfold jl_m247
    repeat' split
    all_goals exact ⟨by decide, by decide⟩
theorem jl_m248_r (o : Int) (x : Int ⊕ Nat) : jb_r (jl_wr jl_m248 o x).1 := by
  cases x with
  | inl v => exact jb_r0
  | inr e =>
    show jb_r (jl_m248 e)
    unfold jl_m248
    repeat' split
    all_goals exact ⟨by decide, by decide⟩
theorem jl_m249_r (o : Int) (x : Int ⊕ Nat) : jb_r (jl_wr jl_m249 o x).1 := by
  cases x with
  | inl v => exact jb_r0
  | inr e =>
    show jb_r (jl_m249 e)
    unfold jl_m249
    repeat' split
    all_goals exact ⟨by decide, by decide⟩
theorem jl_m250_r (o : Int) (x : Int ⊕ Nat) : jb_r (jl_wr jl_m250 o x).1 := by
  cases x with
  | inl v => exact jb_r0
  | inr e =>
    show jb_r (jl_m250 e)
    unfold jl_m250
    repeat' split
    all_goals exact ⟨by decide, by decide⟩
def js0 (K : jc_K) (G : jg_G) (a b e : Int) : Option (jc_K × jg_G) := (fc107 K a).bind fun x => (fo191 G a).bind fun y => jl_cmv jl_m231 x y
theorem jlc0 {d : Nat} {L : Nat} {xs : Nat → Int32} {K : jc_K} {G : jg_G} {o i : Int} {o5 o6 : Option Value} {σ : ib_H} {Q : ib_O → Prop} {r : jc_K × jg_G} (s : jl_S L xs K G o σ) (h0 : 0 ≤ i) (h1 : i + 4 ≤ L) (hL : L ≤ 2048) (hs : js0 K G (jl_x xs (i + 1)) (jl_x xs (i + 2)) (jl_x xs (i + 3)) = some r) (k : ∀ σ' o' o5 o6, jl_S L xs r.1 r.2 o' σ' → jb_w (d + 15) 251 23 [some (.ref 1), some (.ref 2), some (.ref 92), some (.ref 119), some (jb_v (i + 4)), o5, o6] [] σ' Q) : jb_w (d + 15) 251 160 [some (.ref 1), some (.ref 2), some (.ref 92), some (.ref 119), some (jb_v i), o5, o6] [] σ Q := by
  unfold js0 at hs
  obtain ⟨x, hx, hs⟩ := jo_b hs
  obtain ⟨y, hy, hs⟩ := jo_b hs
  obtain ⟨e1, he, ht⟩ := jl_cmv_e o hs
  subst e1
  have hr : jb_r (jl_wr jl_m231 o x.2).1 := jl_m231_r _ _
  refine jaL1 (p := 161) rfl jM251 jq251_160 ?_
  refine jaL0 (p := 162) rfl jM251 jq251_161 ?_
  refine jiL4 (p := 164) rfl jM251 jq251_162 ?_
  refine jw_iconst (p := 165) rfl jM251 jq251_164 ?_
  refine jw_iadd (p := 166) rfl jM251 jq251_165 ?_
  refine jw_sald (p := 167) rfl jM251 jq251_166 s (by omega) (by omega) hL ?_
  refine jw_callS [(.ref 2), (jb_v (jl_x xs (i + 1)))] jM251 jq251_167 rfl rfl rfl jM231 rfl rfl ?_
  refine jl231 (jl_x_r _ _) hx he s (fun σ2 s2 => ?_)
  show jb_w (d + 15) 251 170 [some (.ref 1), some (.ref 2), some (.ref 92), some (.ref 119), some (jb_v i), o5, o6] [(jb_v ((jl_wr jl_m231 o x.2).1))] σ2 Q
  refine jiS5 (p := 172) rfl jM251 jq251_170 ?_
  refine jaL2 (p := 173) rfl jM251 jq251_172 ?_
  refine jaL0 (p := 174) rfl jM251 jq251_173 ?_
  refine jiL4 (p := 176) rfl jM251 jq251_174 ?_
  refine jw_iconst (p := 177) rfl jM251 jq251_176 ?_
  refine jw_iadd (p := 178) rfl jM251 jq251_177 ?_
  refine jw_sald (p := 179) rfl jM251 jq251_178 s2 (by omega) (by omega) hL ?_
  refine jw_callV [(jb_v (jl_x xs (i + 1)))] jM251 jq251_179 rfl rfl (jo_92 s2.1) rfl jM191 rfl rfl ?_
  refine jf191 (jl_x_r _ _) hy (fun σ3 t3 => ?_) σ2 s2.g
  have s3 := s2.g' t3
  show jb_w (d + 15) 251 182 [some (.ref 1), some (.ref 2), some (.ref 92), some (.ref 119), some (jb_v i), some (jb_v ((jl_wr jl_m231 o x.2).1)), o6] [] σ3 Q
  refine jaL2 (p := 183) rfl jM251 jq251_182 ?_
  refine jw_callV [] jM251 jq251_183 rfl rfl (jo_92 s3.1) rfl jM146 rfl rfl ?_
  refine jk146_0 s3.1 ?_
  rw [s3.g.g (n := 92) (i := 0) (by decide) (by decide), ht]
  show jb_w (d + 15) 251 186 [some (.ref 1), some (.ref 2), some (.ref 92), some (.ref 119), some (jb_v i), some (jb_v ((jl_wr jl_m231 o x.2).1)), o6] [(jb_v ((jl_wr jl_m231 o x.2).1))] σ3 Q
  refine jiL5 (p := 188) rfl jM251 jq251_186 ?_
  refine jw_ic (p := 191) rfl jM251 jq251_188 (jc_eq hr hr) (fun _ => ?_) (fun z => absurd rfl z)
  refine jw_goto jM251 jq251_193 ?_
  refine jiI4 (p := 1416) rfl jM251 jq251_1413 ?_
  refine jw_goto jM251 jq251_1416 ?_
  exact k σ3 _ _ _ s3
def js1 (K : jc_K) (G : jg_G) (a b e : Int) : Option (jc_K × jg_G) := (fc108 K a b e).bind fun x => (fo193 G a b e).bind fun y => jl_cmp jl_m232 x y
theorem jlc1 {d : Nat} {L : Nat} {xs : Nat → Int32} {K : jc_K} {G : jg_G} {o i : Int} {o5 o6 : Option Value} {σ : ib_H} {Q : ib_O → Prop} {r : jc_K × jg_G} (s : jl_S L xs K G o σ) (h0 : 0 ≤ i) (h1 : i + 4 ≤ L) (hL : L ≤ 2048) (hs : js1 K G (jl_x xs (i + 1)) (jl_x xs (i + 2)) (jl_x xs (i + 3)) = some r) (k : ∀ σ' o' o5 o6, jl_S L xs r.1 r.2 o' σ' → jb_w (d + 15) 251 23 [some (.ref 1), some (.ref 2), some (.ref 92), some (.ref 119), some (jb_v (i + 4)), o5, o6] [] σ' Q) : jb_w (d + 15) 251 196 [some (.ref 1), some (.ref 2), some (.ref 92), some (.ref 119), some (jb_v i), o5, o6] [] σ Q := by
  unfold js1 at hs
  obtain ⟨x, hx, hs⟩ := jo_b hs
  obtain ⟨y, hy, hs⟩ := jo_b hs
  obtain ⟨e1, he, ht, hv⟩ := jl_cmp_e o hs
  subst e1
  have hr : jb_r (jl_wr jl_m232 o x.2).1 := jl_m232_r _ _
  refine jaL1 (p := 197) rfl jM251 jq251_196 ?_
  refine jaL0 (p := 198) rfl jM251 jq251_197 ?_
  refine jiL4 (p := 200) rfl jM251 jq251_198 ?_
  refine jw_iconst (p := 201) rfl jM251 jq251_200 ?_
  refine jw_iadd (p := 202) rfl jM251 jq251_201 ?_
  refine jw_sald (p := 203) rfl jM251 jq251_202 s (by omega) (by omega) hL ?_
  refine jaL0 (p := 204) rfl jM251 jq251_203 ?_
  refine jiL4 (p := 206) rfl jM251 jq251_204 ?_
  refine jw_iconst (p := 207) rfl jM251 jq251_206 ?_
  refine jw_iadd (p := 208) rfl jM251 jq251_207 ?_
  refine jw_sald (p := 209) rfl jM251 jq251_208 s (by omega) (by omega) hL ?_
  refine jaL0 (p := 210) rfl jM251 jq251_209 ?_
  refine jiL4 (p := 212) rfl jM251 jq251_210 ?_
  refine jw_iconst (p := 213) rfl jM251 jq251_212 ?_
  refine jw_iadd (p := 214) rfl jM251 jq251_213 ?_
  refine jw_sald (p := 215) rfl jM251 jq251_214 s (by omega) (by omega) hL ?_
  refine jaL3 (p := 216) rfl jM251 jq251_215 ?_
  refine jw_callS [(.ref 2), (jb_v (jl_x xs (i + 1))), (jb_v (jl_x xs (i + 2))), (jb_v (jl_x xs (i + 3))), (.ref 119)] jM251 jq251_216 rfl rfl rfl jM232 rfl rfl ?_
  refine jl232 (jl_x_r _ _) (jl_x_r _ _) (jl_x_r _ _) hx he s (fun σ2 s2 => ?_)
  show jb_w (d + 15) 251 219 [some (.ref 1), some (.ref 2), some (.ref 92), some (.ref 119), some (jb_v i), o5, o6] [(jb_v ((jl_wr jl_m232 o x.2).1))] σ2 Q
  refine jiS5 (p := 221) rfl jM251 jq251_219 ?_
  refine jaL2 (p := 222) rfl jM251 jq251_221 ?_
  refine jaL0 (p := 223) rfl jM251 jq251_222 ?_
  refine jiL4 (p := 225) rfl jM251 jq251_223 ?_
  refine jw_iconst (p := 226) rfl jM251 jq251_225 ?_
  refine jw_iadd (p := 227) rfl jM251 jq251_226 ?_
  refine jw_sald (p := 228) rfl jM251 jq251_227 s2 (by omega) (by omega) hL ?_
  refine jaL0 (p := 229) rfl jM251 jq251_228 ?_
  refine jiL4 (p := 231) rfl jM251 jq251_229 ?_
  refine jw_iconst (p := 232) rfl jM251 jq251_231 ?_
  refine jw_iadd (p := 233) rfl jM251 jq251_232 ?_
  refine jw_sald (p := 234) rfl jM251 jq251_233 s2 (by omega) (by omega) hL ?_
  refine jaL0 (p := 235) rfl jM251 jq251_234 ?_
  refine jiL4 (p := 237) rfl jM251 jq251_235 ?_
  refine jw_iconst (p := 238) rfl jM251 jq251_237 ?_
  refine jw_iadd (p := 239) rfl jM251 jq251_238 ?_
  refine jw_sald (p := 240) rfl jM251 jq251_239 s2 (by omega) (by omega) hL ?_
  refine jw_callV [(jb_v (jl_x xs (i + 1))), (jb_v (jl_x xs (i + 2))), (jb_v (jl_x xs (i + 3)))] jM251 jq251_240 rfl rfl (jo_92 s2.1) rfl jM193 rfl rfl ?_
  refine jf193 (jl_x_r _ _) (jl_x_r _ _) (jl_x_r _ _) hy (fun σ3 t3 r3 => ?_) σ2 s2.g
  have s3 := s2.g' t3
  show jb_w (d + 15) 251 243 [some (.ref 1), some (.ref 2), some (.ref 92), some (.ref 119), some (jb_v i), some (jb_v ((jl_wr jl_m232 o x.2).1)), o6] [(jb_v (y.2))] σ3 Q
  refine jiS6 (p := 245) rfl jM251 jq251_243 ?_
  refine jaL2 (p := 246) rfl jM251 jq251_245 ?_
  refine jw_callV [] jM251 jq251_246 rfl rfl (jo_92 s3.1) rfl jM146 rfl rfl ?_
  refine jk146_0 s3.1 ?_
  rw [s3.g.g (n := 92) (i := 0) (by decide) (by decide), ht]
  show jb_w (d + 15) 251 249 [some (.ref 1), some (.ref 2), some (.ref 92), some (.ref 119), some (jb_v i), some (jb_v ((jl_wr jl_m232 o x.2).1)), some (jb_v (y.2))] [(jb_v ((jl_wr jl_m232 o x.2).1))] σ3 Q
  refine jiL5 (p := 251) rfl jM251 jq251_249 ?_
  refine jw_ic (p := 254) rfl jM251 jq251_251 (jc_eq hr hr) (fun _ => ?_) (fun z => absurd rfl z)
  refine jiL5 (p := 258) rfl jM251 jq251_256 ?_
  refine jw_if (p := 261) rfl jM251 jq251_258 (jc_ne hr jb_r0) (fun c0 => ?_) (fun c0 => ?_)
  · refine jw_goto jM251 jq251_273 ?_
    refine jiI4 (p := 1416) rfl jM251 jq251_1413 ?_
    refine jw_goto jM251 jq251_1416 ?_
    exact k σ3 _ _ _ s3
  · have c0 := Decidable.byContradiction c0
    have hw := hv c0
    refine jaL3 (p := 262) rfl jM251 jq251_261 ?_
    refine jw_iconst (p := 263) rfl jM251 jq251_262 ?_
    refine jw_lald (p := 264) rfl jM251 jq251_263 s3 ?_
    refine jiL6 (p := 266) rfl jM251 jq251_264 ?_
    refine jw_i2l (p := 267) rfl jM251 jq251_266 ?_
    rw [hw]
    refine jw_lcmp0 (p := 268) rfl jM251 jq251_267 ?_
    refine jw_if (p := 271) rfl jM251 jq251_268 (jc_eq jb_r0 jb_r0) (fun _ => ?_) (fun z => absurd rfl z)
    refine jw_goto jM251 jq251_273 ?_
    refine jiI4 (p := 1416) rfl jM251 jq251_1413 ?_
    refine jw_goto jM251 jq251_1416 ?_
    exact k σ3 _ _ _ s3
def js2 (K : jc_K) (G : jg_G) (a b e : Int) : Option (jc_K × jg_G) := (fc109 K a b).bind fun x => (fo194 G a b).bind fun y => jl_cmp jl_m233 x y
theorem jlc2 {d : Nat} {L : Nat} {xs : Nat → Int32} {K : jc_K} {G : jg_G} {o i : Int} {o5 o6 : Option Value} {σ : ib_H} {Q : ib_O → Prop} {r : jc_K × jg_G} (s : jl_S L xs K G o σ) (h0 : 0 ≤ i) (h1 : i + 4 ≤ L) (hL : L ≤ 2048) (hs : js2 K G (jl_x xs (i + 1)) (jl_x xs (i + 2)) (jl_x xs (i + 3)) = some r) (k : ∀ σ' o' o5 o6, jl_S L xs r.1 r.2 o' σ' → jb_w (d + 15) 251 23 [some (.ref 1), some (.ref 2), some (.ref 92), some (.ref 119), some (jb_v (i + 4)), o5, o6] [] σ' Q) : jb_w (d + 15) 251 276 [some (.ref 1), some (.ref 2), some (.ref 92), some (.ref 119), some (jb_v i), o5, o6] [] σ Q := by
  unfold js2 at hs
  obtain ⟨x, hx, hs⟩ := jo_b hs
  obtain ⟨y, hy, hs⟩ := jo_b hs
  obtain ⟨e1, he, ht, hv⟩ := jl_cmp_e o hs
  subst e1
  have hr : jb_r (jl_wr jl_m233 o x.2).1 := jl_m233_r _ _
  refine jaL1 (p := 277) rfl jM251 jq251_276 ?_
  refine jaL0 (p := 278) rfl jM251 jq251_277 ?_
  refine jiL4 (p := 280) rfl jM251 jq251_278 ?_
  refine jw_iconst (p := 281) rfl jM251 jq251_280 ?_
  refine jw_iadd (p := 282) rfl jM251 jq251_281 ?_
  refine jw_sald (p := 283) rfl jM251 jq251_282 s (by omega) (by omega) hL ?_
  refine jaL0 (p := 284) rfl jM251 jq251_283 ?_
  refine jiL4 (p := 286) rfl jM251 jq251_284 ?_
  refine jw_iconst (p := 287) rfl jM251 jq251_286 ?_
  refine jw_iadd (p := 288) rfl jM251 jq251_287 ?_
  refine jw_sald (p := 289) rfl jM251 jq251_288 s (by omega) (by omega) hL ?_
  refine jaL3 (p := 290) rfl jM251 jq251_289 ?_
  refine jw_callS [(.ref 2), (jb_v (jl_x xs (i + 1))), (jb_v (jl_x xs (i + 2))), (.ref 119)] jM251 jq251_290 rfl rfl rfl jM233 rfl rfl ?_
  refine jl233 (jl_x_r _ _) (jl_x_r _ _) hx he s (fun σ2 s2 => ?_)
  show jb_w (d + 15) 251 293 [some (.ref 1), some (.ref 2), some (.ref 92), some (.ref 119), some (jb_v i), o5, o6] [(jb_v ((jl_wr jl_m233 o x.2).1))] σ2 Q
  refine jiS5 (p := 295) rfl jM251 jq251_293 ?_
  refine jaL2 (p := 296) rfl jM251 jq251_295 ?_
  refine jaL0 (p := 297) rfl jM251 jq251_296 ?_
  refine jiL4 (p := 299) rfl jM251 jq251_297 ?_
  refine jw_iconst (p := 300) rfl jM251 jq251_299 ?_
  refine jw_iadd (p := 301) rfl jM251 jq251_300 ?_
  refine jw_sald (p := 302) rfl jM251 jq251_301 s2 (by omega) (by omega) hL ?_
  refine jaL0 (p := 303) rfl jM251 jq251_302 ?_
  refine jiL4 (p := 305) rfl jM251 jq251_303 ?_
  refine jw_iconst (p := 306) rfl jM251 jq251_305 ?_
  refine jw_iadd (p := 307) rfl jM251 jq251_306 ?_
  refine jw_sald (p := 308) rfl jM251 jq251_307 s2 (by omega) (by omega) hL ?_
  refine jw_callV [(jb_v (jl_x xs (i + 1))), (jb_v (jl_x xs (i + 2)))] jM251 jq251_308 rfl rfl (jo_92 s2.1) rfl jM194 rfl rfl ?_
  refine jf194 (jl_x_r _ _) (jl_x_r _ _) hy (fun σ3 t3 r3 => ?_) σ2 s2.g
  have s3 := s2.g' t3
  show jb_w (d + 15) 251 311 [some (.ref 1), some (.ref 2), some (.ref 92), some (.ref 119), some (jb_v i), some (jb_v ((jl_wr jl_m233 o x.2).1)), o6] [(jb_v (y.2))] σ3 Q
  refine jiS6 (p := 313) rfl jM251 jq251_311 ?_
  refine jaL2 (p := 314) rfl jM251 jq251_313 ?_
  refine jw_callV [] jM251 jq251_314 rfl rfl (jo_92 s3.1) rfl jM146 rfl rfl ?_
  refine jk146_0 s3.1 ?_
  rw [s3.g.g (n := 92) (i := 0) (by decide) (by decide), ht]
  show jb_w (d + 15) 251 317 [some (.ref 1), some (.ref 2), some (.ref 92), some (.ref 119), some (jb_v i), some (jb_v ((jl_wr jl_m233 o x.2).1)), some (jb_v (y.2))] [(jb_v ((jl_wr jl_m233 o x.2).1))] σ3 Q
  refine jiL5 (p := 319) rfl jM251 jq251_317 ?_
  refine jw_ic (p := 322) rfl jM251 jq251_319 (jc_eq hr hr) (fun _ => ?_) (fun z => absurd rfl z)
  refine jiL5 (p := 326) rfl jM251 jq251_324 ?_
  refine jw_if (p := 329) rfl jM251 jq251_326 (jc_ne hr jb_r0) (fun c0 => ?_) (fun c0 => ?_)
  · refine jw_goto jM251 jq251_341 ?_
    refine jiI4 (p := 1416) rfl jM251 jq251_1413 ?_
    refine jw_goto jM251 jq251_1416 ?_
    exact k σ3 _ _ _ s3
  · have c0 := Decidable.byContradiction c0
    have hw := hv c0
    refine jaL3 (p := 330) rfl jM251 jq251_329 ?_
    refine jw_iconst (p := 331) rfl jM251 jq251_330 ?_
    refine jw_lald (p := 332) rfl jM251 jq251_331 s3 ?_
    refine jiL6 (p := 334) rfl jM251 jq251_332 ?_
    refine jw_i2l (p := 335) rfl jM251 jq251_334 ?_
    rw [hw]
    refine jw_lcmp0 (p := 336) rfl jM251 jq251_335 ?_
    refine jw_if (p := 339) rfl jM251 jq251_336 (jc_eq jb_r0 jb_r0) (fun _ => ?_) (fun z => absurd rfl z)
    refine jw_goto jM251 jq251_341 ?_
    refine jiI4 (p := 1416) rfl jM251 jq251_1413 ?_
    refine jw_goto jM251 jq251_1416 ?_
    exact k σ3 _ _ _ s3
def js3 (K : jc_K) (G : jg_G) (a b e : Int) : Option (jc_K × jg_G) := (fc110 K a b).bind fun x => (fo195 G a b).bind fun y => jl_cmp jl_m234 x y
theorem jlc3 {d : Nat} {L : Nat} {xs : Nat → Int32} {K : jc_K} {G : jg_G} {o i : Int} {o5 o6 : Option Value} {σ : ib_H} {Q : ib_O → Prop} {r : jc_K × jg_G} (s : jl_S L xs K G o σ) (h0 : 0 ≤ i) (h1 : i + 4 ≤ L) (hL : L ≤ 2048) (hs : js3 K G (jl_x xs (i + 1)) (jl_x xs (i + 2)) (jl_x xs (i + 3)) = some r) (k : ∀ σ' o' o5 o6, jl_S L xs r.1 r.2 o' σ' → jb_w (d + 15) 251 23 [some (.ref 1), some (.ref 2), some (.ref 92), some (.ref 119), some (jb_v (i + 4)), o5, o6] [] σ' Q) : jb_w (d + 15) 251 344 [some (.ref 1), some (.ref 2), some (.ref 92), some (.ref 119), some (jb_v i), o5, o6] [] σ Q := by
  unfold js3 at hs
  obtain ⟨x, hx, hs⟩ := jo_b hs
  obtain ⟨y, hy, hs⟩ := jo_b hs
  obtain ⟨e1, he, ht, hv⟩ := jl_cmp_e o hs
  subst e1
  have hr : jb_r (jl_wr jl_m234 o x.2).1 := jl_m234_r _ _
  refine jaL1 (p := 345) rfl jM251 jq251_344 ?_
  refine jaL0 (p := 346) rfl jM251 jq251_345 ?_
  refine jiL4 (p := 348) rfl jM251 jq251_346 ?_
  refine jw_iconst (p := 349) rfl jM251 jq251_348 ?_
  refine jw_iadd (p := 350) rfl jM251 jq251_349 ?_
  refine jw_sald (p := 351) rfl jM251 jq251_350 s (by omega) (by omega) hL ?_
  refine jaL0 (p := 352) rfl jM251 jq251_351 ?_
  refine jiL4 (p := 354) rfl jM251 jq251_352 ?_
  refine jw_iconst (p := 355) rfl jM251 jq251_354 ?_
  refine jw_iadd (p := 356) rfl jM251 jq251_355 ?_
  refine jw_sald (p := 357) rfl jM251 jq251_356 s (by omega) (by omega) hL ?_
  refine jaL3 (p := 358) rfl jM251 jq251_357 ?_
  refine jw_callS [(.ref 2), (jb_v (jl_x xs (i + 1))), (jb_v (jl_x xs (i + 2))), (.ref 119)] jM251 jq251_358 rfl rfl rfl jM234 rfl rfl ?_
  refine jl234 (jl_x_r _ _) (jl_x_r _ _) hx he s (fun σ2 s2 => ?_)
  show jb_w (d + 15) 251 361 [some (.ref 1), some (.ref 2), some (.ref 92), some (.ref 119), some (jb_v i), o5, o6] [(jb_v ((jl_wr jl_m234 o x.2).1))] σ2 Q
  refine jiS5 (p := 363) rfl jM251 jq251_361 ?_
  refine jaL2 (p := 364) rfl jM251 jq251_363 ?_
  refine jaL0 (p := 365) rfl jM251 jq251_364 ?_
  refine jiL4 (p := 367) rfl jM251 jq251_365 ?_
  refine jw_iconst (p := 368) rfl jM251 jq251_367 ?_
  refine jw_iadd (p := 369) rfl jM251 jq251_368 ?_
  refine jw_sald (p := 370) rfl jM251 jq251_369 s2 (by omega) (by omega) hL ?_
  refine jaL0 (p := 371) rfl jM251 jq251_370 ?_
  refine jiL4 (p := 373) rfl jM251 jq251_371 ?_
  refine jw_iconst (p := 374) rfl jM251 jq251_373 ?_
  refine jw_iadd (p := 375) rfl jM251 jq251_374 ?_
  refine jw_sald (p := 376) rfl jM251 jq251_375 s2 (by omega) (by omega) hL ?_
  refine jw_callV [(jb_v (jl_x xs (i + 1))), (jb_v (jl_x xs (i + 2)))] jM251 jq251_376 rfl rfl (jo_92 s2.1) rfl jM195 rfl rfl ?_
  refine jf195 (jl_x_r _ _) (jl_x_r _ _) hy (fun σ3 t3 r3 => ?_) σ2 s2.g
  have s3 := s2.g' t3
  show jb_w (d + 15) 251 379 [some (.ref 1), some (.ref 2), some (.ref 92), some (.ref 119), some (jb_v i), some (jb_v ((jl_wr jl_m234 o x.2).1)), o6] [(jb_v (y.2))] σ3 Q
  refine jiS6 (p := 381) rfl jM251 jq251_379 ?_
  refine jaL2 (p := 382) rfl jM251 jq251_381 ?_
  refine jw_callV [] jM251 jq251_382 rfl rfl (jo_92 s3.1) rfl jM146 rfl rfl ?_
  refine jk146_0 s3.1 ?_
  rw [s3.g.g (n := 92) (i := 0) (by decide) (by decide), ht]
  show jb_w (d + 15) 251 385 [some (.ref 1), some (.ref 2), some (.ref 92), some (.ref 119), some (jb_v i), some (jb_v ((jl_wr jl_m234 o x.2).1)), some (jb_v (y.2))] [(jb_v ((jl_wr jl_m234 o x.2).1))] σ3 Q
  refine jiL5 (p := 387) rfl jM251 jq251_385 ?_
  refine jw_ic (p := 390) rfl jM251 jq251_387 (jc_eq hr hr) (fun _ => ?_) (fun z => absurd rfl z)
  refine jiL5 (p := 394) rfl jM251 jq251_392 ?_
  refine jw_if (p := 397) rfl jM251 jq251_394 (jc_ne hr jb_r0) (fun c0 => ?_) (fun c0 => ?_)
  · refine jw_goto jM251 jq251_409 ?_
    refine jiI4 (p := 1416) rfl jM251 jq251_1413 ?_
    refine jw_goto jM251 jq251_1416 ?_
    exact k σ3 _ _ _ s3
  · have c0 := Decidable.byContradiction c0
    have hw := hv c0
    refine jaL3 (p := 398) rfl jM251 jq251_397 ?_
    refine jw_iconst (p := 399) rfl jM251 jq251_398 ?_
    refine jw_lald (p := 400) rfl jM251 jq251_399 s3 ?_
    refine jiL6 (p := 402) rfl jM251 jq251_400 ?_
    refine jw_i2l (p := 403) rfl jM251 jq251_402 ?_
    rw [hw]
    refine jw_lcmp0 (p := 404) rfl jM251 jq251_403 ?_
    refine jw_if (p := 407) rfl jM251 jq251_404 (jc_eq jb_r0 jb_r0) (fun _ => ?_) (fun z => absurd rfl z)
    refine jw_goto jM251 jq251_409 ?_
    refine jiI4 (p := 1416) rfl jM251 jq251_1413 ?_
    refine jw_goto jM251 jq251_1416 ?_
    exact k σ3 _ _ _ s3
def js4 (K : jc_K) (G : jg_G) (a b e : Int) : Option (jc_K × jg_G) := (fc111 K a).bind fun x => (fo196 G a).bind fun y => jl_cmp jl_m235 x y
theorem jlc4 {d : Nat} {L : Nat} {xs : Nat → Int32} {K : jc_K} {G : jg_G} {o i : Int} {o5 o6 : Option Value} {σ : ib_H} {Q : ib_O → Prop} {r : jc_K × jg_G} (s : jl_S L xs K G o σ) (h0 : 0 ≤ i) (h1 : i + 4 ≤ L) (hL : L ≤ 2048) (hs : js4 K G (jl_x xs (i + 1)) (jl_x xs (i + 2)) (jl_x xs (i + 3)) = some r) (k : ∀ σ' o' o5 o6, jl_S L xs r.1 r.2 o' σ' → jb_w (d + 15) 251 23 [some (.ref 1), some (.ref 2), some (.ref 92), some (.ref 119), some (jb_v (i + 4)), o5, o6] [] σ' Q) : jb_w (d + 15) 251 412 [some (.ref 1), some (.ref 2), some (.ref 92), some (.ref 119), some (jb_v i), o5, o6] [] σ Q := by
  unfold js4 at hs
  obtain ⟨x, hx, hs⟩ := jo_b hs
  obtain ⟨y, hy, hs⟩ := jo_b hs
  obtain ⟨e1, he, ht, hv⟩ := jl_cmp_e o hs
  subst e1
  have hr : jb_r (jl_wr jl_m235 o x.2).1 := jl_m235_r _ _
  refine jaL1 (p := 413) rfl jM251 jq251_412 ?_
  refine jaL0 (p := 414) rfl jM251 jq251_413 ?_
  refine jiL4 (p := 416) rfl jM251 jq251_414 ?_
  refine jw_iconst (p := 417) rfl jM251 jq251_416 ?_
  refine jw_iadd (p := 418) rfl jM251 jq251_417 ?_
  refine jw_sald (p := 419) rfl jM251 jq251_418 s (by omega) (by omega) hL ?_
  refine jaL3 (p := 420) rfl jM251 jq251_419 ?_
  refine jw_callS [(.ref 2), (jb_v (jl_x xs (i + 1))), (.ref 119)] jM251 jq251_420 rfl rfl rfl jM235 rfl rfl ?_
  refine jl235 (jl_x_r _ _) hx he s (fun σ2 s2 => ?_)
  show jb_w (d + 15) 251 423 [some (.ref 1), some (.ref 2), some (.ref 92), some (.ref 119), some (jb_v i), o5, o6] [(jb_v ((jl_wr jl_m235 o x.2).1))] σ2 Q
  refine jiS5 (p := 425) rfl jM251 jq251_423 ?_
  refine jaL2 (p := 426) rfl jM251 jq251_425 ?_
  refine jaL0 (p := 427) rfl jM251 jq251_426 ?_
  refine jiL4 (p := 429) rfl jM251 jq251_427 ?_
  refine jw_iconst (p := 430) rfl jM251 jq251_429 ?_
  refine jw_iadd (p := 431) rfl jM251 jq251_430 ?_
  refine jw_sald (p := 432) rfl jM251 jq251_431 s2 (by omega) (by omega) hL ?_
  refine jw_callV [(jb_v (jl_x xs (i + 1)))] jM251 jq251_432 rfl rfl (jo_92 s2.1) rfl jM196 rfl rfl ?_
  refine jf196 (jl_x_r _ _) hy (fun σ3 t3 r3 => ?_) σ2 s2.g
  have s3 := s2.g' t3
  show jb_w (d + 15) 251 435 [some (.ref 1), some (.ref 2), some (.ref 92), some (.ref 119), some (jb_v i), some (jb_v ((jl_wr jl_m235 o x.2).1)), o6] [(jb_v (y.2))] σ3 Q
  refine jiS6 (p := 437) rfl jM251 jq251_435 ?_
  refine jaL2 (p := 438) rfl jM251 jq251_437 ?_
  refine jw_callV [] jM251 jq251_438 rfl rfl (jo_92 s3.1) rfl jM146 rfl rfl ?_
  refine jk146_0 s3.1 ?_
  rw [s3.g.g (n := 92) (i := 0) (by decide) (by decide), ht]
  show jb_w (d + 15) 251 441 [some (.ref 1), some (.ref 2), some (.ref 92), some (.ref 119), some (jb_v i), some (jb_v ((jl_wr jl_m235 o x.2).1)), some (jb_v (y.2))] [(jb_v ((jl_wr jl_m235 o x.2).1))] σ3 Q
  refine jiL5 (p := 443) rfl jM251 jq251_441 ?_
  refine jw_ic (p := 446) rfl jM251 jq251_443 (jc_eq hr hr) (fun _ => ?_) (fun z => absurd rfl z)
  refine jiL5 (p := 450) rfl jM251 jq251_448 ?_
  refine jw_if (p := 453) rfl jM251 jq251_450 (jc_ne hr jb_r0) (fun c0 => ?_) (fun c0 => ?_)
  · refine jw_goto jM251 jq251_465 ?_
    refine jiI4 (p := 1416) rfl jM251 jq251_1413 ?_
    refine jw_goto jM251 jq251_1416 ?_
    exact k σ3 _ _ _ s3
  · have c0 := Decidable.byContradiction c0
    have hw := hv c0
    refine jaL3 (p := 454) rfl jM251 jq251_453 ?_
    refine jw_iconst (p := 455) rfl jM251 jq251_454 ?_
    refine jw_lald (p := 456) rfl jM251 jq251_455 s3 ?_
    refine jiL6 (p := 458) rfl jM251 jq251_456 ?_
    refine jw_i2l (p := 459) rfl jM251 jq251_458 ?_
    rw [hw]
    refine jw_lcmp0 (p := 460) rfl jM251 jq251_459 ?_
    refine jw_if (p := 463) rfl jM251 jq251_460 (jc_eq jb_r0 jb_r0) (fun _ => ?_) (fun z => absurd rfl z)
    refine jw_goto jM251 jq251_465 ?_
    refine jiI4 (p := 1416) rfl jM251 jq251_1413 ?_
    refine jw_goto jM251 jq251_1416 ?_
    exact k σ3 _ _ _ s3
def js5 (K : jc_K) (G : jg_G) (a b e : Int) : Option (jc_K × jg_G) := (fc112 K a b).bind fun x => (fo197 G a b).bind fun y => jl_cmp jl_m236 x y
theorem jlc5 {d : Nat} {L : Nat} {xs : Nat → Int32} {K : jc_K} {G : jg_G} {o i : Int} {o5 o6 : Option Value} {σ : ib_H} {Q : ib_O → Prop} {r : jc_K × jg_G} (s : jl_S L xs K G o σ) (h0 : 0 ≤ i) (h1 : i + 4 ≤ L) (hL : L ≤ 2048) (hs : js5 K G (jl_x xs (i + 1)) (jl_x xs (i + 2)) (jl_x xs (i + 3)) = some r) (k : ∀ σ' o' o5 o6, jl_S L xs r.1 r.2 o' σ' → jb_w (d + 15) 251 23 [some (.ref 1), some (.ref 2), some (.ref 92), some (.ref 119), some (jb_v (i + 4)), o5, o6] [] σ' Q) : jb_w (d + 15) 251 468 [some (.ref 1), some (.ref 2), some (.ref 92), some (.ref 119), some (jb_v i), o5, o6] [] σ Q := by
  unfold js5 at hs
  obtain ⟨x, hx, hs⟩ := jo_b hs
  obtain ⟨y, hy, hs⟩ := jo_b hs
  obtain ⟨e1, he, ht, hv⟩ := jl_cmp_e o hs
  subst e1
  have hr : jb_r (jl_wr jl_m236 o x.2).1 := jl_m236_r _ _
  refine jaL1 (p := 469) rfl jM251 jq251_468 ?_
  refine jaL0 (p := 470) rfl jM251 jq251_469 ?_
  refine jiL4 (p := 472) rfl jM251 jq251_470 ?_
  refine jw_iconst (p := 473) rfl jM251 jq251_472 ?_
  refine jw_iadd (p := 474) rfl jM251 jq251_473 ?_
  refine jw_sald (p := 475) rfl jM251 jq251_474 s (by omega) (by omega) hL ?_
  refine jaL0 (p := 476) rfl jM251 jq251_475 ?_
  refine jiL4 (p := 478) rfl jM251 jq251_476 ?_
  refine jw_iconst (p := 479) rfl jM251 jq251_478 ?_
  refine jw_iadd (p := 480) rfl jM251 jq251_479 ?_
  refine jw_sald (p := 481) rfl jM251 jq251_480 s (by omega) (by omega) hL ?_
  refine jaL3 (p := 482) rfl jM251 jq251_481 ?_
  refine jw_callS [(.ref 2), (jb_v (jl_x xs (i + 1))), (jb_v (jl_x xs (i + 2))), (.ref 119)] jM251 jq251_482 rfl rfl rfl jM236 rfl rfl ?_
  refine jl236 (jl_x_r _ _) (jl_x_r _ _) hx he s (fun σ2 s2 => ?_)
  show jb_w (d + 15) 251 485 [some (.ref 1), some (.ref 2), some (.ref 92), some (.ref 119), some (jb_v i), o5, o6] [(jb_v ((jl_wr jl_m236 o x.2).1))] σ2 Q
  refine jiS5 (p := 487) rfl jM251 jq251_485 ?_
  refine jaL2 (p := 488) rfl jM251 jq251_487 ?_
  refine jaL0 (p := 489) rfl jM251 jq251_488 ?_
  refine jiL4 (p := 491) rfl jM251 jq251_489 ?_
  refine jw_iconst (p := 492) rfl jM251 jq251_491 ?_
  refine jw_iadd (p := 493) rfl jM251 jq251_492 ?_
  refine jw_sald (p := 494) rfl jM251 jq251_493 s2 (by omega) (by omega) hL ?_
  refine jaL0 (p := 495) rfl jM251 jq251_494 ?_
  refine jiL4 (p := 497) rfl jM251 jq251_495 ?_
  refine jw_iconst (p := 498) rfl jM251 jq251_497 ?_
  refine jw_iadd (p := 499) rfl jM251 jq251_498 ?_
  refine jw_sald (p := 500) rfl jM251 jq251_499 s2 (by omega) (by omega) hL ?_
  refine jw_callV [(jb_v (jl_x xs (i + 1))), (jb_v (jl_x xs (i + 2)))] jM251 jq251_500 rfl rfl (jo_92 s2.1) rfl jM197 rfl rfl ?_
  refine jf197 (jl_x_r _ _) (jl_x_r _ _) hy (fun σ3 t3 r3 => ?_) σ2 s2.g
  have s3 := s2.g' t3
  show jb_w (d + 15) 251 503 [some (.ref 1), some (.ref 2), some (.ref 92), some (.ref 119), some (jb_v i), some (jb_v ((jl_wr jl_m236 o x.2).1)), o6] [(jb_v (y.2))] σ3 Q
  refine jiS6 (p := 505) rfl jM251 jq251_503 ?_
  refine jaL2 (p := 506) rfl jM251 jq251_505 ?_
  refine jw_callV [] jM251 jq251_506 rfl rfl (jo_92 s3.1) rfl jM146 rfl rfl ?_
  refine jk146_0 s3.1 ?_
  rw [s3.g.g (n := 92) (i := 0) (by decide) (by decide), ht]
  show jb_w (d + 15) 251 509 [some (.ref 1), some (.ref 2), some (.ref 92), some (.ref 119), some (jb_v i), some (jb_v ((jl_wr jl_m236 o x.2).1)), some (jb_v (y.2))] [(jb_v ((jl_wr jl_m236 o x.2).1))] σ3 Q
  refine jiL5 (p := 511) rfl jM251 jq251_509 ?_
  refine jw_ic (p := 514) rfl jM251 jq251_511 (jc_eq hr hr) (fun _ => ?_) (fun z => absurd rfl z)
  refine jiL5 (p := 518) rfl jM251 jq251_516 ?_
  refine jw_if (p := 521) rfl jM251 jq251_518 (jc_ne hr jb_r0) (fun c0 => ?_) (fun c0 => ?_)
  · refine jw_goto jM251 jq251_533 ?_
    refine jiI4 (p := 1416) rfl jM251 jq251_1413 ?_
    refine jw_goto jM251 jq251_1416 ?_
    exact k σ3 _ _ _ s3
  · have c0 := Decidable.byContradiction c0
    have hw := hv c0
    refine jaL3 (p := 522) rfl jM251 jq251_521 ?_
    refine jw_iconst (p := 523) rfl jM251 jq251_522 ?_
    refine jw_lald (p := 524) rfl jM251 jq251_523 s3 ?_
    refine jiL6 (p := 526) rfl jM251 jq251_524 ?_
    refine jw_i2l (p := 527) rfl jM251 jq251_526 ?_
    rw [hw]
    refine jw_lcmp0 (p := 528) rfl jM251 jq251_527 ?_
    refine jw_if (p := 531) rfl jM251 jq251_528 (jc_eq jb_r0 jb_r0) (fun _ => ?_) (fun z => absurd rfl z)
    refine jw_goto jM251 jq251_533 ?_
    refine jiI4 (p := 1416) rfl jM251 jq251_1413 ?_
    refine jw_goto jM251 jq251_1416 ?_
    exact k σ3 _ _ _ s3
def js6 (K : jc_K) (G : jg_G) (a b e : Int) : Option (jc_K × jg_G) := (fc113 K a).bind fun x => (fo198 G a).bind fun y => jl_cmp jl_m237 x y
theorem jlc6 {d : Nat} {L : Nat} {xs : Nat → Int32} {K : jc_K} {G : jg_G} {o i : Int} {o5 o6 : Option Value} {σ : ib_H} {Q : ib_O → Prop} {r : jc_K × jg_G} (s : jl_S L xs K G o σ) (h0 : 0 ≤ i) (h1 : i + 4 ≤ L) (hL : L ≤ 2048) (hs : js6 K G (jl_x xs (i + 1)) (jl_x xs (i + 2)) (jl_x xs (i + 3)) = some r) (k : ∀ σ' o' o5 o6, jl_S L xs r.1 r.2 o' σ' → jb_w (d + 15) 251 23 [some (.ref 1), some (.ref 2), some (.ref 92), some (.ref 119), some (jb_v (i + 4)), o5, o6] [] σ' Q) : jb_w (d + 15) 251 536 [some (.ref 1), some (.ref 2), some (.ref 92), some (.ref 119), some (jb_v i), o5, o6] [] σ Q := by
  unfold js6 at hs
  obtain ⟨x, hx, hs⟩ := jo_b hs
  obtain ⟨y, hy, hs⟩ := jo_b hs
  obtain ⟨e1, he, ht, hv⟩ := jl_cmp_e o hs
  subst e1
  have hr : jb_r (jl_wr jl_m237 o x.2).1 := jl_m237_r _ _
  refine jaL1 (p := 537) rfl jM251 jq251_536 ?_
  refine jaL0 (p := 538) rfl jM251 jq251_537 ?_
  refine jiL4 (p := 540) rfl jM251 jq251_538 ?_
  refine jw_iconst (p := 541) rfl jM251 jq251_540 ?_
  refine jw_iadd (p := 542) rfl jM251 jq251_541 ?_
  refine jw_sald (p := 543) rfl jM251 jq251_542 s (by omega) (by omega) hL ?_
  refine jaL3 (p := 544) rfl jM251 jq251_543 ?_
  refine jw_callS [(.ref 2), (jb_v (jl_x xs (i + 1))), (.ref 119)] jM251 jq251_544 rfl rfl rfl jM237 rfl rfl ?_
  refine jl237 (jl_x_r _ _) hx he s (fun σ2 s2 => ?_)
  show jb_w (d + 15) 251 547 [some (.ref 1), some (.ref 2), some (.ref 92), some (.ref 119), some (jb_v i), o5, o6] [(jb_v ((jl_wr jl_m237 o x.2).1))] σ2 Q
  refine jiS5 (p := 549) rfl jM251 jq251_547 ?_
  refine jaL2 (p := 550) rfl jM251 jq251_549 ?_
  refine jaL0 (p := 551) rfl jM251 jq251_550 ?_
  refine jiL4 (p := 553) rfl jM251 jq251_551 ?_
  refine jw_iconst (p := 554) rfl jM251 jq251_553 ?_
  refine jw_iadd (p := 555) rfl jM251 jq251_554 ?_
  refine jw_sald (p := 556) rfl jM251 jq251_555 s2 (by omega) (by omega) hL ?_
  refine jw_callV [(jb_v (jl_x xs (i + 1)))] jM251 jq251_556 rfl rfl (jo_92 s2.1) rfl jM198 rfl rfl ?_
  refine jf198 (jl_x_r _ _) hy (fun σ3 t3 r3 => ?_) σ2 s2.g
  have s3 := s2.g' t3
  show jb_w (d + 15) 251 559 [some (.ref 1), some (.ref 2), some (.ref 92), some (.ref 119), some (jb_v i), some (jb_v ((jl_wr jl_m237 o x.2).1)), o6] [(jb_v (y.2))] σ3 Q
  refine jiS6 (p := 561) rfl jM251 jq251_559 ?_
  refine jaL2 (p := 562) rfl jM251 jq251_561 ?_
  refine jw_callV [] jM251 jq251_562 rfl rfl (jo_92 s3.1) rfl jM146 rfl rfl ?_
  refine jk146_0 s3.1 ?_
  rw [s3.g.g (n := 92) (i := 0) (by decide) (by decide), ht]
  show jb_w (d + 15) 251 565 [some (.ref 1), some (.ref 2), some (.ref 92), some (.ref 119), some (jb_v i), some (jb_v ((jl_wr jl_m237 o x.2).1)), some (jb_v (y.2))] [(jb_v ((jl_wr jl_m237 o x.2).1))] σ3 Q
  refine jiL5 (p := 567) rfl jM251 jq251_565 ?_
  refine jw_ic (p := 570) rfl jM251 jq251_567 (jc_eq hr hr) (fun _ => ?_) (fun z => absurd rfl z)
  refine jiL5 (p := 574) rfl jM251 jq251_572 ?_
  refine jw_if (p := 577) rfl jM251 jq251_574 (jc_ne hr jb_r0) (fun c0 => ?_) (fun c0 => ?_)
  · refine jw_goto jM251 jq251_589 ?_
    refine jiI4 (p := 1416) rfl jM251 jq251_1413 ?_
    refine jw_goto jM251 jq251_1416 ?_
    exact k σ3 _ _ _ s3
  · have c0 := Decidable.byContradiction c0
    have hw := hv c0
    refine jaL3 (p := 578) rfl jM251 jq251_577 ?_
    refine jw_iconst (p := 579) rfl jM251 jq251_578 ?_
    refine jw_lald (p := 580) rfl jM251 jq251_579 s3 ?_
    refine jiL6 (p := 582) rfl jM251 jq251_580 ?_
    refine jw_i2l (p := 583) rfl jM251 jq251_582 ?_
    rw [hw]
    refine jw_lcmp0 (p := 584) rfl jM251 jq251_583 ?_
    refine jw_if (p := 587) rfl jM251 jq251_584 (jc_eq jb_r0 jb_r0) (fun _ => ?_) (fun z => absurd rfl z)
    refine jw_goto jM251 jq251_589 ?_
    refine jiI4 (p := 1416) rfl jM251 jq251_1413 ?_
    refine jw_goto jM251 jq251_1416 ?_
    exact k σ3 _ _ _ s3
def js7 (K : jc_K) (G : jg_G) (a b e : Int) : Option (jc_K × jg_G) := (fc114 K a).bind fun x => (fo199 G a).bind fun y => jl_cmp jl_m238 x y
theorem jlc7 {d : Nat} {L : Nat} {xs : Nat → Int32} {K : jc_K} {G : jg_G} {o i : Int} {o5 o6 : Option Value} {σ : ib_H} {Q : ib_O → Prop} {r : jc_K × jg_G} (s : jl_S L xs K G o σ) (h0 : 0 ≤ i) (h1 : i + 4 ≤ L) (hL : L ≤ 2048) (hs : js7 K G (jl_x xs (i + 1)) (jl_x xs (i + 2)) (jl_x xs (i + 3)) = some r) (k : ∀ σ' o' o5 o6, jl_S L xs r.1 r.2 o' σ' → jb_w (d + 15) 251 23 [some (.ref 1), some (.ref 2), some (.ref 92), some (.ref 119), some (jb_v (i + 4)), o5, o6] [] σ' Q) : jb_w (d + 15) 251 592 [some (.ref 1), some (.ref 2), some (.ref 92), some (.ref 119), some (jb_v i), o5, o6] [] σ Q := by
  unfold js7 at hs
  obtain ⟨x, hx, hs⟩ := jo_b hs
  obtain ⟨y, hy, hs⟩ := jo_b hs
  obtain ⟨e1, he, ht, hv⟩ := jl_cmp_e o hs
  subst e1
  have hr : jb_r (jl_wr jl_m238 o x.2).1 := jl_m238_r _ _
  refine jaL1 (p := 593) rfl jM251 jq251_592 ?_
  refine jaL0 (p := 594) rfl jM251 jq251_593 ?_
  refine jiL4 (p := 596) rfl jM251 jq251_594 ?_
  refine jw_iconst (p := 597) rfl jM251 jq251_596 ?_
  refine jw_iadd (p := 598) rfl jM251 jq251_597 ?_
  refine jw_sald (p := 599) rfl jM251 jq251_598 s (by omega) (by omega) hL ?_
  refine jaL3 (p := 600) rfl jM251 jq251_599 ?_
  refine jw_callS [(.ref 2), (jb_v (jl_x xs (i + 1))), (.ref 119)] jM251 jq251_600 rfl rfl rfl jM238 rfl rfl ?_
  refine jl238 (jl_x_r _ _) hx he s (fun σ2 s2 => ?_)
  show jb_w (d + 15) 251 603 [some (.ref 1), some (.ref 2), some (.ref 92), some (.ref 119), some (jb_v i), o5, o6] [(jb_v ((jl_wr jl_m238 o x.2).1))] σ2 Q
  refine jiS5 (p := 605) rfl jM251 jq251_603 ?_
  refine jaL2 (p := 606) rfl jM251 jq251_605 ?_
  refine jaL0 (p := 607) rfl jM251 jq251_606 ?_
  refine jiL4 (p := 609) rfl jM251 jq251_607 ?_
  refine jw_iconst (p := 610) rfl jM251 jq251_609 ?_
  refine jw_iadd (p := 611) rfl jM251 jq251_610 ?_
  refine jw_sald (p := 612) rfl jM251 jq251_611 s2 (by omega) (by omega) hL ?_
  refine jw_callV [(jb_v (jl_x xs (i + 1)))] jM251 jq251_612 rfl rfl (jo_92 s2.1) rfl jM199 rfl rfl ?_
  refine jf199 (jl_x_r _ _) hy (fun σ3 t3 r3 => ?_) σ2 s2.g
  have s3 := s2.g' t3
  show jb_w (d + 15) 251 615 [some (.ref 1), some (.ref 2), some (.ref 92), some (.ref 119), some (jb_v i), some (jb_v ((jl_wr jl_m238 o x.2).1)), o6] [(jb_v (y.2))] σ3 Q
  refine jiS6 (p := 617) rfl jM251 jq251_615 ?_
  refine jaL2 (p := 618) rfl jM251 jq251_617 ?_
  refine jw_callV [] jM251 jq251_618 rfl rfl (jo_92 s3.1) rfl jM146 rfl rfl ?_
  refine jk146_0 s3.1 ?_
  rw [s3.g.g (n := 92) (i := 0) (by decide) (by decide), ht]
  show jb_w (d + 15) 251 621 [some (.ref 1), some (.ref 2), some (.ref 92), some (.ref 119), some (jb_v i), some (jb_v ((jl_wr jl_m238 o x.2).1)), some (jb_v (y.2))] [(jb_v ((jl_wr jl_m238 o x.2).1))] σ3 Q
  refine jiL5 (p := 623) rfl jM251 jq251_621 ?_
  refine jw_ic (p := 626) rfl jM251 jq251_623 (jc_eq hr hr) (fun _ => ?_) (fun z => absurd rfl z)
  refine jiL5 (p := 630) rfl jM251 jq251_628 ?_
  refine jw_if (p := 633) rfl jM251 jq251_630 (jc_ne hr jb_r0) (fun c0 => ?_) (fun c0 => ?_)
  · refine jw_goto jM251 jq251_645 ?_
    refine jiI4 (p := 1416) rfl jM251 jq251_1413 ?_
    refine jw_goto jM251 jq251_1416 ?_
    exact k σ3 _ _ _ s3
  · have c0 := Decidable.byContradiction c0
    have hw := hv c0
    refine jaL3 (p := 634) rfl jM251 jq251_633 ?_
    refine jw_iconst (p := 635) rfl jM251 jq251_634 ?_
    refine jw_lald (p := 636) rfl jM251 jq251_635 s3 ?_
    refine jiL6 (p := 638) rfl jM251 jq251_636 ?_
    refine jw_i2l (p := 639) rfl jM251 jq251_638 ?_
    rw [hw]
    refine jw_lcmp0 (p := 640) rfl jM251 jq251_639 ?_
    refine jw_if (p := 643) rfl jM251 jq251_640 (jc_eq jb_r0 jb_r0) (fun _ => ?_) (fun z => absurd rfl z)
    refine jw_goto jM251 jq251_645 ?_
    refine jiI4 (p := 1416) rfl jM251 jq251_1413 ?_
    refine jw_goto jM251 jq251_1416 ?_
    exact k σ3 _ _ _ s3
def js8 (K : jc_K) (G : jg_G) (a b e : Int) : Option (jc_K × jg_G) := (fc115 K ).bind fun x => (fo200 G ).bind fun y => jl_cmp jl_m239 x y
theorem jlc8 {d : Nat} {L : Nat} {xs : Nat → Int32} {K : jc_K} {G : jg_G} {o i : Int} {o5 o6 : Option Value} {σ : ib_H} {Q : ib_O → Prop} {r : jc_K × jg_G} (s : jl_S L xs K G o σ) (h0 : 0 ≤ i) (h1 : i + 4 ≤ L) (hL : L ≤ 2048) (hs : js8 K G (jl_x xs (i + 1)) (jl_x xs (i + 2)) (jl_x xs (i + 3)) = some r) (k : ∀ σ' o' o5 o6, jl_S L xs r.1 r.2 o' σ' → jb_w (d + 15) 251 23 [some (.ref 1), some (.ref 2), some (.ref 92), some (.ref 119), some (jb_v (i + 4)), o5, o6] [] σ' Q) : jb_w (d + 15) 251 648 [some (.ref 1), some (.ref 2), some (.ref 92), some (.ref 119), some (jb_v i), o5, o6] [] σ Q := by
  unfold js8 at hs
  obtain ⟨x, hx, hs⟩ := jo_b hs
  obtain ⟨y, hy, hs⟩ := jo_b hs
  obtain ⟨e1, he, ht, hv⟩ := jl_cmp_e o hs
  subst e1
  have hr : jb_r (jl_wr jl_m239 o x.2).1 := jl_m239_r _ _
  refine jaL1 (p := 649) rfl jM251 jq251_648 ?_
  refine jaL3 (p := 650) rfl jM251 jq251_649 ?_
  refine jw_callS [(.ref 2), (.ref 119)] jM251 jq251_650 rfl rfl rfl jM239 rfl rfl ?_
  refine jl239  hx he s (fun σ2 s2 => ?_)
  show jb_w (d + 15) 251 653 [some (.ref 1), some (.ref 2), some (.ref 92), some (.ref 119), some (jb_v i), o5, o6] [(jb_v ((jl_wr jl_m239 o x.2).1))] σ2 Q
  refine jiS5 (p := 655) rfl jM251 jq251_653 ?_
  refine jaL2 (p := 656) rfl jM251 jq251_655 ?_
  refine jw_callV [] jM251 jq251_656 rfl rfl (jo_92 s2.1) rfl jM200 rfl rfl ?_
  refine jf200  hy (fun σ3 t3 r3 => ?_) σ2 s2.g
  have s3 := s2.g' t3
  show jb_w (d + 15) 251 659 [some (.ref 1), some (.ref 2), some (.ref 92), some (.ref 119), some (jb_v i), some (jb_v ((jl_wr jl_m239 o x.2).1)), o6] [(jb_v (y.2))] σ3 Q
  refine jiS6 (p := 661) rfl jM251 jq251_659 ?_
  refine jaL2 (p := 662) rfl jM251 jq251_661 ?_
  refine jw_callV [] jM251 jq251_662 rfl rfl (jo_92 s3.1) rfl jM146 rfl rfl ?_
  refine jk146_0 s3.1 ?_
  rw [s3.g.g (n := 92) (i := 0) (by decide) (by decide), ht]
  show jb_w (d + 15) 251 665 [some (.ref 1), some (.ref 2), some (.ref 92), some (.ref 119), some (jb_v i), some (jb_v ((jl_wr jl_m239 o x.2).1)), some (jb_v (y.2))] [(jb_v ((jl_wr jl_m239 o x.2).1))] σ3 Q
  refine jiL5 (p := 667) rfl jM251 jq251_665 ?_
  refine jw_ic (p := 670) rfl jM251 jq251_667 (jc_eq hr hr) (fun _ => ?_) (fun z => absurd rfl z)
  refine jiL5 (p := 674) rfl jM251 jq251_672 ?_
  refine jw_if (p := 677) rfl jM251 jq251_674 (jc_ne hr jb_r0) (fun c0 => ?_) (fun c0 => ?_)
  · refine jw_goto jM251 jq251_689 ?_
    refine jiI4 (p := 1416) rfl jM251 jq251_1413 ?_
    refine jw_goto jM251 jq251_1416 ?_
    exact k σ3 _ _ _ s3
  · have c0 := Decidable.byContradiction c0
    have hw := hv c0
    refine jaL3 (p := 678) rfl jM251 jq251_677 ?_
    refine jw_iconst (p := 679) rfl jM251 jq251_678 ?_
    refine jw_lald (p := 680) rfl jM251 jq251_679 s3 ?_
    refine jiL6 (p := 682) rfl jM251 jq251_680 ?_
    refine jw_i2l (p := 683) rfl jM251 jq251_682 ?_
    rw [hw]
    refine jw_lcmp0 (p := 684) rfl jM251 jq251_683 ?_
    refine jw_if (p := 687) rfl jM251 jq251_684 (jc_eq jb_r0 jb_r0) (fun _ => ?_) (fun z => absurd rfl z)
    refine jw_goto jM251 jq251_689 ?_
    refine jiI4 (p := 1416) rfl jM251 jq251_1413 ?_
    refine jw_goto jM251 jq251_1416 ?_
    exact k σ3 _ _ _ s3
def js9 (K : jc_K) (G : jg_G) (a b e : Int) : Option (jc_K × jg_G) := (fc116 K a).bind fun x => (fo201 G a).bind fun y => jl_cmp jl_m240 x y
theorem jlc9 {d : Nat} {L : Nat} {xs : Nat → Int32} {K : jc_K} {G : jg_G} {o i : Int} {o5 o6 : Option Value} {σ : ib_H} {Q : ib_O → Prop} {r : jc_K × jg_G} (s : jl_S L xs K G o σ) (h0 : 0 ≤ i) (h1 : i + 4 ≤ L) (hL : L ≤ 2048) (hs : js9 K G (jl_x xs (i + 1)) (jl_x xs (i + 2)) (jl_x xs (i + 3)) = some r) (k : ∀ σ' o' o5 o6, jl_S L xs r.1 r.2 o' σ' → jb_w (d + 15) 251 23 [some (.ref 1), some (.ref 2), some (.ref 92), some (.ref 119), some (jb_v (i + 4)), o5, o6] [] σ' Q) : jb_w (d + 15) 251 692 [some (.ref 1), some (.ref 2), some (.ref 92), some (.ref 119), some (jb_v i), o5, o6] [] σ Q := by
  unfold js9 at hs
  obtain ⟨x, hx, hs⟩ := jo_b hs
  obtain ⟨y, hy, hs⟩ := jo_b hs
  obtain ⟨e1, he, ht, hv⟩ := jl_cmp_e o hs
  subst e1
  have hr : jb_r (jl_wr jl_m240 o x.2).1 := jl_m240_r _ _
  refine jaL1 (p := 693) rfl jM251 jq251_692 ?_
  refine jaL0 (p := 694) rfl jM251 jq251_693 ?_
  refine jiL4 (p := 696) rfl jM251 jq251_694 ?_
  refine jw_iconst (p := 697) rfl jM251 jq251_696 ?_
  refine jw_iadd (p := 698) rfl jM251 jq251_697 ?_
  refine jw_sald (p := 699) rfl jM251 jq251_698 s (by omega) (by omega) hL ?_
  refine jaL3 (p := 700) rfl jM251 jq251_699 ?_
  refine jw_callS [(.ref 2), (jb_v (jl_x xs (i + 1))), (.ref 119)] jM251 jq251_700 rfl rfl rfl jM240 rfl rfl ?_
  refine jl240 (jl_x_r _ _) hx he s (fun σ2 s2 => ?_)
  show jb_w (d + 15) 251 703 [some (.ref 1), some (.ref 2), some (.ref 92), some (.ref 119), some (jb_v i), o5, o6] [(jb_v ((jl_wr jl_m240 o x.2).1))] σ2 Q
  refine jiS5 (p := 705) rfl jM251 jq251_703 ?_
  refine jaL2 (p := 706) rfl jM251 jq251_705 ?_
  refine jaL0 (p := 707) rfl jM251 jq251_706 ?_
  refine jiL4 (p := 709) rfl jM251 jq251_707 ?_
  refine jw_iconst (p := 710) rfl jM251 jq251_709 ?_
  refine jw_iadd (p := 711) rfl jM251 jq251_710 ?_
  refine jw_sald (p := 712) rfl jM251 jq251_711 s2 (by omega) (by omega) hL ?_
  refine jw_callV [(jb_v (jl_x xs (i + 1)))] jM251 jq251_712 rfl rfl (jo_92 s2.1) rfl jM201 rfl rfl ?_
  refine jf201 (jl_x_r _ _) hy (fun σ3 t3 r3 => ?_) σ2 s2.g
  have s3 := s2.g' t3
  show jb_w (d + 15) 251 715 [some (.ref 1), some (.ref 2), some (.ref 92), some (.ref 119), some (jb_v i), some (jb_v ((jl_wr jl_m240 o x.2).1)), o6] [(jb_v (y.2))] σ3 Q
  refine jiS6 (p := 717) rfl jM251 jq251_715 ?_
  refine jaL2 (p := 718) rfl jM251 jq251_717 ?_
  refine jw_callV [] jM251 jq251_718 rfl rfl (jo_92 s3.1) rfl jM146 rfl rfl ?_
  refine jk146_0 s3.1 ?_
  rw [s3.g.g (n := 92) (i := 0) (by decide) (by decide), ht]
  show jb_w (d + 15) 251 721 [some (.ref 1), some (.ref 2), some (.ref 92), some (.ref 119), some (jb_v i), some (jb_v ((jl_wr jl_m240 o x.2).1)), some (jb_v (y.2))] [(jb_v ((jl_wr jl_m240 o x.2).1))] σ3 Q
  refine jiL5 (p := 723) rfl jM251 jq251_721 ?_
  refine jw_ic (p := 726) rfl jM251 jq251_723 (jc_eq hr hr) (fun _ => ?_) (fun z => absurd rfl z)
  refine jiL5 (p := 730) rfl jM251 jq251_728 ?_
  refine jw_if (p := 733) rfl jM251 jq251_730 (jc_ne hr jb_r0) (fun c0 => ?_) (fun c0 => ?_)
  · refine jw_goto jM251 jq251_745 ?_
    refine jiI4 (p := 1416) rfl jM251 jq251_1413 ?_
    refine jw_goto jM251 jq251_1416 ?_
    exact k σ3 _ _ _ s3
  · have c0 := Decidable.byContradiction c0
    have hw := hv c0
    refine jaL3 (p := 734) rfl jM251 jq251_733 ?_
    refine jw_iconst (p := 735) rfl jM251 jq251_734 ?_
    refine jw_lald (p := 736) rfl jM251 jq251_735 s3 ?_
    refine jiL6 (p := 738) rfl jM251 jq251_736 ?_
    refine jw_i2l (p := 739) rfl jM251 jq251_738 ?_
    rw [hw]
    refine jw_lcmp0 (p := 740) rfl jM251 jq251_739 ?_
    refine jw_if (p := 743) rfl jM251 jq251_740 (jc_eq jb_r0 jb_r0) (fun _ => ?_) (fun z => absurd rfl z)
    refine jw_goto jM251 jq251_745 ?_
    refine jiI4 (p := 1416) rfl jM251 jq251_1413 ?_
    refine jw_goto jM251 jq251_1416 ?_
    exact k σ3 _ _ _ s3
def js10 (K : jc_K) (G : jg_G) (a b e : Int) : Option (jc_K × jg_G) := (fc117 K a).bind fun x => (fo202 G a).bind fun y => jl_cmv jl_m241 x y
theorem jlc10 {d : Nat} {L : Nat} {xs : Nat → Int32} {K : jc_K} {G : jg_G} {o i : Int} {o5 o6 : Option Value} {σ : ib_H} {Q : ib_O → Prop} {r : jc_K × jg_G} (s : jl_S L xs K G o σ) (h0 : 0 ≤ i) (h1 : i + 4 ≤ L) (hL : L ≤ 2048) (hs : js10 K G (jl_x xs (i + 1)) (jl_x xs (i + 2)) (jl_x xs (i + 3)) = some r) (k : ∀ σ' o' o5 o6, jl_S L xs r.1 r.2 o' σ' → jb_w (d + 15) 251 23 [some (.ref 1), some (.ref 2), some (.ref 92), some (.ref 119), some (jb_v (i + 4)), o5, o6] [] σ' Q) : jb_w (d + 15) 251 748 [some (.ref 1), some (.ref 2), some (.ref 92), some (.ref 119), some (jb_v i), o5, o6] [] σ Q := by
  unfold js10 at hs
  obtain ⟨x, hx, hs⟩ := jo_b hs
  obtain ⟨y, hy, hs⟩ := jo_b hs
  obtain ⟨e1, he, ht⟩ := jl_cmv_e o hs
  subst e1
  have hr : jb_r (jl_wr jl_m241 o x.2).1 := jl_m241_r _ _
  refine jaL1 (p := 749) rfl jM251 jq251_748 ?_
  refine jaL0 (p := 750) rfl jM251 jq251_749 ?_
  refine jiL4 (p := 752) rfl jM251 jq251_750 ?_
  refine jw_iconst (p := 753) rfl jM251 jq251_752 ?_
  refine jw_iadd (p := 754) rfl jM251 jq251_753 ?_
  refine jw_sald (p := 755) rfl jM251 jq251_754 s (by omega) (by omega) hL ?_
  refine jw_callS [(.ref 2), (jb_v (jl_x xs (i + 1)))] jM251 jq251_755 rfl rfl rfl jM241 rfl rfl ?_
  refine jl241 (jl_x_r _ _) hx he s (fun σ2 s2 => ?_)
  show jb_w (d + 15) 251 758 [some (.ref 1), some (.ref 2), some (.ref 92), some (.ref 119), some (jb_v i), o5, o6] [(jb_v ((jl_wr jl_m241 o x.2).1))] σ2 Q
  refine jiS5 (p := 760) rfl jM251 jq251_758 ?_
  refine jaL2 (p := 761) rfl jM251 jq251_760 ?_
  refine jaL0 (p := 762) rfl jM251 jq251_761 ?_
  refine jiL4 (p := 764) rfl jM251 jq251_762 ?_
  refine jw_iconst (p := 765) rfl jM251 jq251_764 ?_
  refine jw_iadd (p := 766) rfl jM251 jq251_765 ?_
  refine jw_sald (p := 767) rfl jM251 jq251_766 s2 (by omega) (by omega) hL ?_
  refine jw_callV [(jb_v (jl_x xs (i + 1)))] jM251 jq251_767 rfl rfl (jo_92 s2.1) rfl jM202 rfl rfl ?_
  refine jf202 (jl_x_r _ _) hy (fun σ3 t3 => ?_) σ2 s2.g
  have s3 := s2.g' t3
  show jb_w (d + 15) 251 770 [some (.ref 1), some (.ref 2), some (.ref 92), some (.ref 119), some (jb_v i), some (jb_v ((jl_wr jl_m241 o x.2).1)), o6] [] σ3 Q
  refine jaL2 (p := 771) rfl jM251 jq251_770 ?_
  refine jw_callV [] jM251 jq251_771 rfl rfl (jo_92 s3.1) rfl jM146 rfl rfl ?_
  refine jk146_0 s3.1 ?_
  rw [s3.g.g (n := 92) (i := 0) (by decide) (by decide), ht]
  show jb_w (d + 15) 251 774 [some (.ref 1), some (.ref 2), some (.ref 92), some (.ref 119), some (jb_v i), some (jb_v ((jl_wr jl_m241 o x.2).1)), o6] [(jb_v ((jl_wr jl_m241 o x.2).1))] σ3 Q
  refine jiL5 (p := 776) rfl jM251 jq251_774 ?_
  refine jw_ic (p := 779) rfl jM251 jq251_776 (jc_eq hr hr) (fun _ => ?_) (fun z => absurd rfl z)
  refine jw_goto jM251 jq251_781 ?_
  refine jiI4 (p := 1416) rfl jM251 jq251_1413 ?_
  refine jw_goto jM251 jq251_1416 ?_
  exact k σ3 _ _ _ s3
def js11 (K : jc_K) (G : jg_G) (a b e : Int) : Option (jc_K × jg_G) := (fc118 K).bind fun x => (fo203 G ).bind fun y => some (x.1, y.1)
theorem jlc11 {d : Nat} {L : Nat} {xs : Nat → Int32} {K : jc_K} {G : jg_G} {o i : Int} {o5 o6 : Option Value} {σ : ib_H} {Q : ib_O → Prop} {r : jc_K × jg_G} (s : jl_S L xs K G o σ) (h0 : 0 ≤ i) (h1 : i + 4 ≤ L) (hL : L ≤ 2048) (hs : js11 K G (jl_x xs (i + 1)) (jl_x xs (i + 2)) (jl_x xs (i + 3)) = some r) (k : ∀ σ' o' o5 o6, jl_S L xs r.1 r.2 o' σ' → jb_w (d + 15) 251 23 [some (.ref 1), some (.ref 2), some (.ref 92), some (.ref 119), some (jb_v (i + 4)), o5, o6] [] σ' Q) : jb_w (d + 15) 251 784 [some (.ref 1), some (.ref 2), some (.ref 92), some (.ref 119), some (jb_v i), o5, o6] [] σ Q := by
  unfold js11 at hs
  obtain ⟨x, hx, hs⟩ := jo_b hs
  obtain ⟨y, hy, hs⟩ := jo_b hs
  cases hs
  refine jaL1 (p := 785) rfl jM251 jq251_784 ?_
  refine jw_callV [] jM251 jq251_785 rfl rfl (jo_2 s.1) rfl jM118 rfl rfl ?_
  refine jd118 hx (fun σ2 t2 => ?_) σ s.c
  have s2 := s.c' t2
  show jb_w (d + 15) 251 788 [some (.ref 1), some (.ref 2), some (.ref 92), some (.ref 119), some (jb_v i), o5, o6] [] σ2 Q
  refine jaL2 (p := 789) rfl jM251 jq251_788 ?_
  refine jw_callV [] jM251 jq251_789 rfl rfl (jo_92 s2.1) rfl jM203 rfl rfl ?_
  refine jf203  hy (fun σ3 t3 => ?_) σ2 s2.g
  have s3 := s2.g' t3
  show jb_w (d + 15) 251 792 [some (.ref 1), some (.ref 2), some (.ref 92), some (.ref 119), some (jb_v i), o5, o6] [] σ3 Q
  refine jw_goto jM251 jq251_792 ?_
  refine jiI4 (p := 1416) rfl jM251 jq251_1413 ?_
  refine jw_goto jM251 jq251_1416 ?_
  exact k σ3 _ _ _ s3
def js12 (K : jc_K) (G : jg_G) (a b e : Int) : Option (jc_K × jg_G) := (fc119 K ).bind fun x => (fo212 G ).bind fun y => jl_cmp jl_m242 x y
theorem jlc12 {d : Nat} {L : Nat} {xs : Nat → Int32} {K : jc_K} {G : jg_G} {o i : Int} {o5 o6 : Option Value} {σ : ib_H} {Q : ib_O → Prop} {r : jc_K × jg_G} (s : jl_S L xs K G o σ) (h0 : 0 ≤ i) (h1 : i + 4 ≤ L) (hL : L ≤ 2048) (hs : js12 K G (jl_x xs (i + 1)) (jl_x xs (i + 2)) (jl_x xs (i + 3)) = some r) (k : ∀ σ' o' o5 o6, jl_S L xs r.1 r.2 o' σ' → jb_w (d + 15) 251 23 [some (.ref 1), some (.ref 2), some (.ref 92), some (.ref 119), some (jb_v (i + 4)), o5, o6] [] σ' Q) : jb_w (d + 15) 251 795 [some (.ref 1), some (.ref 2), some (.ref 92), some (.ref 119), some (jb_v i), o5, o6] [] σ Q := by
  unfold js12 at hs
  obtain ⟨x, hx, hs⟩ := jo_b hs
  obtain ⟨y, hy, hs⟩ := jo_b hs
  obtain ⟨e1, he, ht, hv⟩ := jl_cmp_e o hs
  subst e1
  have hr : jb_r (jl_wr jl_m242 o x.2).1 := jl_m242_r _ _
  refine jaL1 (p := 796) rfl jM251 jq251_795 ?_
  refine jaL3 (p := 797) rfl jM251 jq251_796 ?_
  refine jw_callS [(.ref 2), (.ref 119)] jM251 jq251_797 rfl rfl rfl jM242 rfl rfl ?_
  refine jl242  hx he s (fun σ2 s2 => ?_)
  show jb_w (d + 15) 251 800 [some (.ref 1), some (.ref 2), some (.ref 92), some (.ref 119), some (jb_v i), o5, o6] [(jb_v ((jl_wr jl_m242 o x.2).1))] σ2 Q
  refine jiS5 (p := 802) rfl jM251 jq251_800 ?_
  refine jaL2 (p := 803) rfl jM251 jq251_802 ?_
  refine jw_callV [] jM251 jq251_803 rfl rfl (jo_92 s2.1) rfl jM212 rfl rfl ?_
  refine jf212  hy (fun σ3 t3 r3 => ?_) σ2 s2.g
  have s3 := s2.g' t3
  show jb_w (d + 15) 251 806 [some (.ref 1), some (.ref 2), some (.ref 92), some (.ref 119), some (jb_v i), some (jb_v ((jl_wr jl_m242 o x.2).1)), o6] [(jb_v (y.2))] σ3 Q
  refine jiS6 (p := 808) rfl jM251 jq251_806 ?_
  refine jaL2 (p := 809) rfl jM251 jq251_808 ?_
  refine jw_callV [] jM251 jq251_809 rfl rfl (jo_92 s3.1) rfl jM146 rfl rfl ?_
  refine jk146_0 s3.1 ?_
  rw [s3.g.g (n := 92) (i := 0) (by decide) (by decide), ht]
  show jb_w (d + 15) 251 812 [some (.ref 1), some (.ref 2), some (.ref 92), some (.ref 119), some (jb_v i), some (jb_v ((jl_wr jl_m242 o x.2).1)), some (jb_v (y.2))] [(jb_v ((jl_wr jl_m242 o x.2).1))] σ3 Q
  refine jiL5 (p := 814) rfl jM251 jq251_812 ?_
  refine jw_ic (p := 817) rfl jM251 jq251_814 (jc_eq hr hr) (fun _ => ?_) (fun z => absurd rfl z)
  refine jiL5 (p := 821) rfl jM251 jq251_819 ?_
  refine jw_if (p := 824) rfl jM251 jq251_821 (jc_ne hr jb_r0) (fun c0 => ?_) (fun c0 => ?_)
  · refine jw_goto jM251 jq251_836 ?_
    refine jiI4 (p := 1416) rfl jM251 jq251_1413 ?_
    refine jw_goto jM251 jq251_1416 ?_
    exact k σ3 _ _ _ s3
  · have c0 := Decidable.byContradiction c0
    have hw := hv c0
    refine jaL3 (p := 825) rfl jM251 jq251_824 ?_
    refine jw_iconst (p := 826) rfl jM251 jq251_825 ?_
    refine jw_lald (p := 827) rfl jM251 jq251_826 s3 ?_
    refine jiL6 (p := 829) rfl jM251 jq251_827 ?_
    refine jw_i2l (p := 830) rfl jM251 jq251_829 ?_
    rw [hw]
    refine jw_lcmp0 (p := 831) rfl jM251 jq251_830 ?_
    refine jw_if (p := 834) rfl jM251 jq251_831 (jc_eq jb_r0 jb_r0) (fun _ => ?_) (fun z => absurd rfl z)
    refine jw_goto jM251 jq251_836 ?_
    refine jiI4 (p := 1416) rfl jM251 jq251_1413 ?_
    refine jw_goto jM251 jq251_1416 ?_
    exact k σ3 _ _ _ s3
def js13 (K : jc_K) (G : jg_G) (a b e : Int) : Option (jc_K × jg_G) := (fc120 K a).bind fun x => (fo213 G a).bind fun y => jl_cmp jl_m243 x y
theorem jlc13 {d : Nat} {L : Nat} {xs : Nat → Int32} {K : jc_K} {G : jg_G} {o i : Int} {o5 o6 : Option Value} {σ : ib_H} {Q : ib_O → Prop} {r : jc_K × jg_G} (s : jl_S L xs K G o σ) (h0 : 0 ≤ i) (h1 : i + 4 ≤ L) (hL : L ≤ 2048) (hs : js13 K G (jl_x xs (i + 1)) (jl_x xs (i + 2)) (jl_x xs (i + 3)) = some r) (k : ∀ σ' o' o5 o6, jl_S L xs r.1 r.2 o' σ' → jb_w (d + 15) 251 23 [some (.ref 1), some (.ref 2), some (.ref 92), some (.ref 119), some (jb_v (i + 4)), o5, o6] [] σ' Q) : jb_w (d + 15) 251 839 [some (.ref 1), some (.ref 2), some (.ref 92), some (.ref 119), some (jb_v i), o5, o6] [] σ Q := by
  unfold js13 at hs
  obtain ⟨x, hx, hs⟩ := jo_b hs
  obtain ⟨y, hy, hs⟩ := jo_b hs
  obtain ⟨e1, he, ht, hv⟩ := jl_cmp_e o hs
  subst e1
  have hr : jb_r (jl_wr jl_m243 o x.2).1 := jl_m243_r _ _
  refine jaL1 (p := 840) rfl jM251 jq251_839 ?_
  refine jaL0 (p := 841) rfl jM251 jq251_840 ?_
  refine jiL4 (p := 843) rfl jM251 jq251_841 ?_
  refine jw_iconst (p := 844) rfl jM251 jq251_843 ?_
  refine jw_iadd (p := 845) rfl jM251 jq251_844 ?_
  refine jw_sald (p := 846) rfl jM251 jq251_845 s (by omega) (by omega) hL ?_
  refine jaL3 (p := 847) rfl jM251 jq251_846 ?_
  refine jw_callS [(.ref 2), (jb_v (jl_x xs (i + 1))), (.ref 119)] jM251 jq251_847 rfl rfl rfl jM243 rfl rfl ?_
  refine jl243 (jl_x_r _ _) hx he s (fun σ2 s2 => ?_)
  show jb_w (d + 15) 251 850 [some (.ref 1), some (.ref 2), some (.ref 92), some (.ref 119), some (jb_v i), o5, o6] [(jb_v ((jl_wr jl_m243 o x.2).1))] σ2 Q
  refine jiS5 (p := 852) rfl jM251 jq251_850 ?_
  refine jaL2 (p := 853) rfl jM251 jq251_852 ?_
  refine jaL0 (p := 854) rfl jM251 jq251_853 ?_
  refine jiL4 (p := 856) rfl jM251 jq251_854 ?_
  refine jw_iconst (p := 857) rfl jM251 jq251_856 ?_
  refine jw_iadd (p := 858) rfl jM251 jq251_857 ?_
  refine jw_sald (p := 859) rfl jM251 jq251_858 s2 (by omega) (by omega) hL ?_
  refine jw_callV [(jb_v (jl_x xs (i + 1)))] jM251 jq251_859 rfl rfl (jo_92 s2.1) rfl jM213 rfl rfl ?_
  refine jf213 (jl_x_r _ _) hy (fun σ3 t3 r3 => ?_) σ2 s2.g
  have s3 := s2.g' t3
  show jb_w (d + 15) 251 862 [some (.ref 1), some (.ref 2), some (.ref 92), some (.ref 119), some (jb_v i), some (jb_v ((jl_wr jl_m243 o x.2).1)), o6] [(jb_v (y.2))] σ3 Q
  refine jiS6 (p := 864) rfl jM251 jq251_862 ?_
  refine jaL2 (p := 865) rfl jM251 jq251_864 ?_
  refine jw_callV [] jM251 jq251_865 rfl rfl (jo_92 s3.1) rfl jM146 rfl rfl ?_
  refine jk146_0 s3.1 ?_
  rw [s3.g.g (n := 92) (i := 0) (by decide) (by decide), ht]
  show jb_w (d + 15) 251 868 [some (.ref 1), some (.ref 2), some (.ref 92), some (.ref 119), some (jb_v i), some (jb_v ((jl_wr jl_m243 o x.2).1)), some (jb_v (y.2))] [(jb_v ((jl_wr jl_m243 o x.2).1))] σ3 Q
  refine jiL5 (p := 870) rfl jM251 jq251_868 ?_
  refine jw_ic (p := 873) rfl jM251 jq251_870 (jc_eq hr hr) (fun _ => ?_) (fun z => absurd rfl z)
  refine jiL5 (p := 877) rfl jM251 jq251_875 ?_
  refine jw_if (p := 880) rfl jM251 jq251_877 (jc_ne hr jb_r0) (fun c0 => ?_) (fun c0 => ?_)
  · refine jw_goto jM251 jq251_892 ?_
    refine jiI4 (p := 1416) rfl jM251 jq251_1413 ?_
    refine jw_goto jM251 jq251_1416 ?_
    exact k σ3 _ _ _ s3
  · have c0 := Decidable.byContradiction c0
    have hw := hv c0
    refine jaL3 (p := 881) rfl jM251 jq251_880 ?_
    refine jw_iconst (p := 882) rfl jM251 jq251_881 ?_
    refine jw_lald (p := 883) rfl jM251 jq251_882 s3 ?_
    refine jiL6 (p := 885) rfl jM251 jq251_883 ?_
    refine jw_i2l (p := 886) rfl jM251 jq251_885 ?_
    rw [hw]
    refine jw_lcmp0 (p := 887) rfl jM251 jq251_886 ?_
    refine jw_if (p := 890) rfl jM251 jq251_887 (jc_eq jb_r0 jb_r0) (fun _ => ?_) (fun z => absurd rfl z)
    refine jw_goto jM251 jq251_892 ?_
    refine jiI4 (p := 1416) rfl jM251 jq251_1413 ?_
    refine jw_goto jM251 jq251_1416 ?_
    exact k σ3 _ _ _ s3
def js14 (K : jc_K) (G : jg_G) (a b e : Int) : Option (jc_K × jg_G) := (fc121 K a b).bind fun x => (fo214 G a b).bind fun y => jl_cmp jl_m244 x y
theorem jlc14 {d : Nat} {L : Nat} {xs : Nat → Int32} {K : jc_K} {G : jg_G} {o i : Int} {o5 o6 : Option Value} {σ : ib_H} {Q : ib_O → Prop} {r : jc_K × jg_G} (s : jl_S L xs K G o σ) (h0 : 0 ≤ i) (h1 : i + 4 ≤ L) (hL : L ≤ 2048) (hs : js14 K G (jl_x xs (i + 1)) (jl_x xs (i + 2)) (jl_x xs (i + 3)) = some r) (k : ∀ σ' o' o5 o6, jl_S L xs r.1 r.2 o' σ' → jb_w (d + 15) 251 23 [some (.ref 1), some (.ref 2), some (.ref 92), some (.ref 119), some (jb_v (i + 4)), o5, o6] [] σ' Q) : jb_w (d + 15) 251 895 [some (.ref 1), some (.ref 2), some (.ref 92), some (.ref 119), some (jb_v i), o5, o6] [] σ Q := by
  unfold js14 at hs
  obtain ⟨x, hx, hs⟩ := jo_b hs
  obtain ⟨y, hy, hs⟩ := jo_b hs
  obtain ⟨e1, he, ht, hv⟩ := jl_cmp_e o hs
  subst e1
  have hr : jb_r (jl_wr jl_m244 o x.2).1 := jl_m244_r _ _
  refine jaL1 (p := 896) rfl jM251 jq251_895 ?_
  refine jaL0 (p := 897) rfl jM251 jq251_896 ?_
  refine jiL4 (p := 899) rfl jM251 jq251_897 ?_
  refine jw_iconst (p := 900) rfl jM251 jq251_899 ?_
  refine jw_iadd (p := 901) rfl jM251 jq251_900 ?_
  refine jw_sald (p := 902) rfl jM251 jq251_901 s (by omega) (by omega) hL ?_
  refine jaL0 (p := 903) rfl jM251 jq251_902 ?_
  refine jiL4 (p := 905) rfl jM251 jq251_903 ?_
  refine jw_iconst (p := 906) rfl jM251 jq251_905 ?_
  refine jw_iadd (p := 907) rfl jM251 jq251_906 ?_
  refine jw_sald (p := 908) rfl jM251 jq251_907 s (by omega) (by omega) hL ?_
  refine jaL3 (p := 909) rfl jM251 jq251_908 ?_
  refine jw_callS [(.ref 2), (jb_v (jl_x xs (i + 1))), (jb_v (jl_x xs (i + 2))), (.ref 119)] jM251 jq251_909 rfl rfl rfl jM244 rfl rfl ?_
  refine jl244 (jl_x_r _ _) (jl_x_r _ _) hx he s (fun σ2 s2 => ?_)
  show jb_w (d + 15) 251 912 [some (.ref 1), some (.ref 2), some (.ref 92), some (.ref 119), some (jb_v i), o5, o6] [(jb_v ((jl_wr jl_m244 o x.2).1))] σ2 Q
  refine jiS5 (p := 914) rfl jM251 jq251_912 ?_
  refine jaL2 (p := 915) rfl jM251 jq251_914 ?_
  refine jaL0 (p := 916) rfl jM251 jq251_915 ?_
  refine jiL4 (p := 918) rfl jM251 jq251_916 ?_
  refine jw_iconst (p := 919) rfl jM251 jq251_918 ?_
  refine jw_iadd (p := 920) rfl jM251 jq251_919 ?_
  refine jw_sald (p := 921) rfl jM251 jq251_920 s2 (by omega) (by omega) hL ?_
  refine jaL0 (p := 922) rfl jM251 jq251_921 ?_
  refine jiL4 (p := 924) rfl jM251 jq251_922 ?_
  refine jw_iconst (p := 925) rfl jM251 jq251_924 ?_
  refine jw_iadd (p := 926) rfl jM251 jq251_925 ?_
  refine jw_sald (p := 927) rfl jM251 jq251_926 s2 (by omega) (by omega) hL ?_
  refine jw_callV [(jb_v (jl_x xs (i + 1))), (jb_v (jl_x xs (i + 2)))] jM251 jq251_927 rfl rfl (jo_92 s2.1) rfl jM214 rfl rfl ?_
  refine jf214 (jl_x_r _ _) (jl_x_r _ _) hy (fun σ3 t3 r3 => ?_) σ2 s2.g
  have s3 := s2.g' t3
  show jb_w (d + 15) 251 930 [some (.ref 1), some (.ref 2), some (.ref 92), some (.ref 119), some (jb_v i), some (jb_v ((jl_wr jl_m244 o x.2).1)), o6] [(jb_v (y.2))] σ3 Q
  refine jiS6 (p := 932) rfl jM251 jq251_930 ?_
  refine jaL2 (p := 933) rfl jM251 jq251_932 ?_
  refine jw_callV [] jM251 jq251_933 rfl rfl (jo_92 s3.1) rfl jM146 rfl rfl ?_
  refine jk146_0 s3.1 ?_
  rw [s3.g.g (n := 92) (i := 0) (by decide) (by decide), ht]
  show jb_w (d + 15) 251 936 [some (.ref 1), some (.ref 2), some (.ref 92), some (.ref 119), some (jb_v i), some (jb_v ((jl_wr jl_m244 o x.2).1)), some (jb_v (y.2))] [(jb_v ((jl_wr jl_m244 o x.2).1))] σ3 Q
  refine jiL5 (p := 938) rfl jM251 jq251_936 ?_
  refine jw_ic (p := 941) rfl jM251 jq251_938 (jc_eq hr hr) (fun _ => ?_) (fun z => absurd rfl z)
  refine jiL5 (p := 945) rfl jM251 jq251_943 ?_
  refine jw_if (p := 948) rfl jM251 jq251_945 (jc_ne hr jb_r0) (fun c0 => ?_) (fun c0 => ?_)
  · refine jw_goto jM251 jq251_960 ?_
    refine jiI4 (p := 1416) rfl jM251 jq251_1413 ?_
    refine jw_goto jM251 jq251_1416 ?_
    exact k σ3 _ _ _ s3
  · have c0 := Decidable.byContradiction c0
    have hw := hv c0
    refine jaL3 (p := 949) rfl jM251 jq251_948 ?_
    refine jw_iconst (p := 950) rfl jM251 jq251_949 ?_
    refine jw_lald (p := 951) rfl jM251 jq251_950 s3 ?_
    refine jiL6 (p := 953) rfl jM251 jq251_951 ?_
    refine jw_i2l (p := 954) rfl jM251 jq251_953 ?_
    rw [hw]
    refine jw_lcmp0 (p := 955) rfl jM251 jq251_954 ?_
    refine jw_if (p := 958) rfl jM251 jq251_955 (jc_eq jb_r0 jb_r0) (fun _ => ?_) (fun z => absurd rfl z)
    refine jw_goto jM251 jq251_960 ?_
    refine jiI4 (p := 1416) rfl jM251 jq251_1413 ?_
    refine jw_goto jM251 jq251_1416 ?_
    exact k σ3 _ _ _ s3
def js15 (K : jc_K) (G : jg_G) (a b e : Int) : Option (jc_K × jg_G) := (fc122 K a b).bind fun x => (fo215 G a b).bind fun y => jl_cmp jl_m245 x y
theorem jlc15 {d : Nat} {L : Nat} {xs : Nat → Int32} {K : jc_K} {G : jg_G} {o i : Int} {o5 o6 : Option Value} {σ : ib_H} {Q : ib_O → Prop} {r : jc_K × jg_G} (s : jl_S L xs K G o σ) (h0 : 0 ≤ i) (h1 : i + 4 ≤ L) (hL : L ≤ 2048) (hs : js15 K G (jl_x xs (i + 1)) (jl_x xs (i + 2)) (jl_x xs (i + 3)) = some r) (k : ∀ σ' o' o5 o6, jl_S L xs r.1 r.2 o' σ' → jb_w (d + 15) 251 23 [some (.ref 1), some (.ref 2), some (.ref 92), some (.ref 119), some (jb_v (i + 4)), o5, o6] [] σ' Q) : jb_w (d + 15) 251 963 [some (.ref 1), some (.ref 2), some (.ref 92), some (.ref 119), some (jb_v i), o5, o6] [] σ Q := by
  unfold js15 at hs
  obtain ⟨x, hx, hs⟩ := jo_b hs
  obtain ⟨y, hy, hs⟩ := jo_b hs
  obtain ⟨e1, he, ht, hv⟩ := jl_cmp_e o hs
  subst e1
  have hr : jb_r (jl_wr jl_m245 o x.2).1 := jl_m245_r _ _
  refine jaL1 (p := 964) rfl jM251 jq251_963 ?_
  refine jaL0 (p := 965) rfl jM251 jq251_964 ?_
  refine jiL4 (p := 967) rfl jM251 jq251_965 ?_
  refine jw_iconst (p := 968) rfl jM251 jq251_967 ?_
  refine jw_iadd (p := 969) rfl jM251 jq251_968 ?_
  refine jw_sald (p := 970) rfl jM251 jq251_969 s (by omega) (by omega) hL ?_
  refine jaL0 (p := 971) rfl jM251 jq251_970 ?_
  refine jiL4 (p := 973) rfl jM251 jq251_971 ?_
  refine jw_iconst (p := 974) rfl jM251 jq251_973 ?_
  refine jw_iadd (p := 975) rfl jM251 jq251_974 ?_
  refine jw_sald (p := 976) rfl jM251 jq251_975 s (by omega) (by omega) hL ?_
  refine jaL3 (p := 977) rfl jM251 jq251_976 ?_
  refine jw_callS [(.ref 2), (jb_v (jl_x xs (i + 1))), (jb_v (jl_x xs (i + 2))), (.ref 119)] jM251 jq251_977 rfl rfl rfl jM245 rfl rfl ?_
  refine jl245 (jl_x_r _ _) (jl_x_r _ _) hx he s (fun σ2 s2 => ?_)
  show jb_w (d + 15) 251 980 [some (.ref 1), some (.ref 2), some (.ref 92), some (.ref 119), some (jb_v i), o5, o6] [(jb_v ((jl_wr jl_m245 o x.2).1))] σ2 Q
  refine jiS5 (p := 982) rfl jM251 jq251_980 ?_
  refine jaL2 (p := 983) rfl jM251 jq251_982 ?_
  refine jaL0 (p := 984) rfl jM251 jq251_983 ?_
  refine jiL4 (p := 986) rfl jM251 jq251_984 ?_
  refine jw_iconst (p := 987) rfl jM251 jq251_986 ?_
  refine jw_iadd (p := 988) rfl jM251 jq251_987 ?_
  refine jw_sald (p := 989) rfl jM251 jq251_988 s2 (by omega) (by omega) hL ?_
  refine jaL0 (p := 990) rfl jM251 jq251_989 ?_
  refine jiL4 (p := 992) rfl jM251 jq251_990 ?_
  refine jw_iconst (p := 993) rfl jM251 jq251_992 ?_
  refine jw_iadd (p := 994) rfl jM251 jq251_993 ?_
  refine jw_sald (p := 995) rfl jM251 jq251_994 s2 (by omega) (by omega) hL ?_
  refine jw_callV [(jb_v (jl_x xs (i + 1))), (jb_v (jl_x xs (i + 2)))] jM251 jq251_995 rfl rfl (jo_92 s2.1) rfl jM215 rfl rfl ?_
  refine jf215 (jl_x_r _ _) (jl_x_r _ _) hy (fun σ3 t3 r3 => ?_) σ2 s2.g
  have s3 := s2.g' t3
  show jb_w (d + 15) 251 998 [some (.ref 1), some (.ref 2), some (.ref 92), some (.ref 119), some (jb_v i), some (jb_v ((jl_wr jl_m245 o x.2).1)), o6] [(jb_v (y.2))] σ3 Q
  refine jiS6 (p := 1000) rfl jM251 jq251_998 ?_
  refine jaL2 (p := 1001) rfl jM251 jq251_1000 ?_
  refine jw_callV [] jM251 jq251_1001 rfl rfl (jo_92 s3.1) rfl jM146 rfl rfl ?_
  refine jk146_0 s3.1 ?_
  rw [s3.g.g (n := 92) (i := 0) (by decide) (by decide), ht]
  show jb_w (d + 15) 251 1004 [some (.ref 1), some (.ref 2), some (.ref 92), some (.ref 119), some (jb_v i), some (jb_v ((jl_wr jl_m245 o x.2).1)), some (jb_v (y.2))] [(jb_v ((jl_wr jl_m245 o x.2).1))] σ3 Q
  refine jiL5 (p := 1006) rfl jM251 jq251_1004 ?_
  refine jw_ic (p := 1009) rfl jM251 jq251_1006 (jc_eq hr hr) (fun _ => ?_) (fun z => absurd rfl z)
  refine jiL5 (p := 1013) rfl jM251 jq251_1011 ?_
  refine jw_if (p := 1016) rfl jM251 jq251_1013 (jc_ne hr jb_r0) (fun c0 => ?_) (fun c0 => ?_)
  · refine jw_goto jM251 jq251_1028 ?_
    refine jiI4 (p := 1416) rfl jM251 jq251_1413 ?_
    refine jw_goto jM251 jq251_1416 ?_
    exact k σ3 _ _ _ s3
  · have c0 := Decidable.byContradiction c0
    have hw := hv c0
    refine jaL3 (p := 1017) rfl jM251 jq251_1016 ?_
    refine jw_iconst (p := 1018) rfl jM251 jq251_1017 ?_
    refine jw_lald (p := 1019) rfl jM251 jq251_1018 s3 ?_
    refine jiL6 (p := 1021) rfl jM251 jq251_1019 ?_
    refine jw_i2l (p := 1022) rfl jM251 jq251_1021 ?_
    rw [hw]
    refine jw_lcmp0 (p := 1023) rfl jM251 jq251_1022 ?_
    refine jw_if (p := 1026) rfl jM251 jq251_1023 (jc_eq jb_r0 jb_r0) (fun _ => ?_) (fun z => absurd rfl z)
    refine jw_goto jM251 jq251_1028 ?_
    refine jiI4 (p := 1416) rfl jM251 jq251_1413 ?_
    refine jw_goto jM251 jq251_1416 ?_
    exact k σ3 _ _ _ s3
def js16 (K : jc_K) (G : jg_G) (a b e : Int) : Option (jc_K × jg_G) := (fc123 K a b).bind fun x => (fo216 G a b).bind fun y => jl_cmp jl_m246 x y
theorem jlc16 {d : Nat} {L : Nat} {xs : Nat → Int32} {K : jc_K} {G : jg_G} {o i : Int} {o5 o6 : Option Value} {σ : ib_H} {Q : ib_O → Prop} {r : jc_K × jg_G} (s : jl_S L xs K G o σ) (h0 : 0 ≤ i) (h1 : i + 4 ≤ L) (hL : L ≤ 2048) (hs : js16 K G (jl_x xs (i + 1)) (jl_x xs (i + 2)) (jl_x xs (i + 3)) = some r) (k : ∀ σ' o' o5 o6, jl_S L xs r.1 r.2 o' σ' → jb_w (d + 15) 251 23 [some (.ref 1), some (.ref 2), some (.ref 92), some (.ref 119), some (jb_v (i + 4)), o5, o6] [] σ' Q) : jb_w (d + 15) 251 1031 [some (.ref 1), some (.ref 2), some (.ref 92), some (.ref 119), some (jb_v i), o5, o6] [] σ Q := by
  unfold js16 at hs
  obtain ⟨x, hx, hs⟩ := jo_b hs
  obtain ⟨y, hy, hs⟩ := jo_b hs
  obtain ⟨e1, he, ht, hv⟩ := jl_cmp_e o hs
  subst e1
  have hr : jb_r (jl_wr jl_m246 o x.2).1 := jl_m246_r _ _
  refine jaL1 (p := 1032) rfl jM251 jq251_1031 ?_
  refine jaL0 (p := 1033) rfl jM251 jq251_1032 ?_
  refine jiL4 (p := 1035) rfl jM251 jq251_1033 ?_
  refine jw_iconst (p := 1036) rfl jM251 jq251_1035 ?_
  refine jw_iadd (p := 1037) rfl jM251 jq251_1036 ?_
  refine jw_sald (p := 1038) rfl jM251 jq251_1037 s (by omega) (by omega) hL ?_
  refine jaL0 (p := 1039) rfl jM251 jq251_1038 ?_
  refine jiL4 (p := 1041) rfl jM251 jq251_1039 ?_
  refine jw_iconst (p := 1042) rfl jM251 jq251_1041 ?_
  refine jw_iadd (p := 1043) rfl jM251 jq251_1042 ?_
  refine jw_sald (p := 1044) rfl jM251 jq251_1043 s (by omega) (by omega) hL ?_
  refine jaL3 (p := 1045) rfl jM251 jq251_1044 ?_
  refine jw_callS [(.ref 2), (jb_v (jl_x xs (i + 1))), (jb_v (jl_x xs (i + 2))), (.ref 119)] jM251 jq251_1045 rfl rfl rfl jM246 rfl rfl ?_
  refine jl246 (jl_x_r _ _) (jl_x_r _ _) hx he s (fun σ2 s2 => ?_)
  show jb_w (d + 15) 251 1048 [some (.ref 1), some (.ref 2), some (.ref 92), some (.ref 119), some (jb_v i), o5, o6] [(jb_v ((jl_wr jl_m246 o x.2).1))] σ2 Q
  refine jiS5 (p := 1050) rfl jM251 jq251_1048 ?_
  refine jaL2 (p := 1051) rfl jM251 jq251_1050 ?_
  refine jaL0 (p := 1052) rfl jM251 jq251_1051 ?_
  refine jiL4 (p := 1054) rfl jM251 jq251_1052 ?_
  refine jw_iconst (p := 1055) rfl jM251 jq251_1054 ?_
  refine jw_iadd (p := 1056) rfl jM251 jq251_1055 ?_
  refine jw_sald (p := 1057) rfl jM251 jq251_1056 s2 (by omega) (by omega) hL ?_
  refine jaL0 (p := 1058) rfl jM251 jq251_1057 ?_
  refine jiL4 (p := 1060) rfl jM251 jq251_1058 ?_
  refine jw_iconst (p := 1061) rfl jM251 jq251_1060 ?_
  refine jw_iadd (p := 1062) rfl jM251 jq251_1061 ?_
  refine jw_sald (p := 1063) rfl jM251 jq251_1062 s2 (by omega) (by omega) hL ?_
  refine jw_callV [(jb_v (jl_x xs (i + 1))), (jb_v (jl_x xs (i + 2)))] jM251 jq251_1063 rfl rfl (jo_92 s2.1) rfl jM216 rfl rfl ?_
  refine jf216 (jl_x_r _ _) (jl_x_r _ _) hy (fun σ3 t3 r3 => ?_) σ2 s2.g
  have s3 := s2.g' t3
  show jb_w (d + 15) 251 1066 [some (.ref 1), some (.ref 2), some (.ref 92), some (.ref 119), some (jb_v i), some (jb_v ((jl_wr jl_m246 o x.2).1)), o6] [(jb_v (y.2))] σ3 Q
  refine jiS6 (p := 1068) rfl jM251 jq251_1066 ?_
  refine jaL2 (p := 1069) rfl jM251 jq251_1068 ?_
  refine jw_callV [] jM251 jq251_1069 rfl rfl (jo_92 s3.1) rfl jM146 rfl rfl ?_
  refine jk146_0 s3.1 ?_
  rw [s3.g.g (n := 92) (i := 0) (by decide) (by decide), ht]
  show jb_w (d + 15) 251 1072 [some (.ref 1), some (.ref 2), some (.ref 92), some (.ref 119), some (jb_v i), some (jb_v ((jl_wr jl_m246 o x.2).1)), some (jb_v (y.2))] [(jb_v ((jl_wr jl_m246 o x.2).1))] σ3 Q
  refine jiL5 (p := 1074) rfl jM251 jq251_1072 ?_
  refine jw_ic (p := 1077) rfl jM251 jq251_1074 (jc_eq hr hr) (fun _ => ?_) (fun z => absurd rfl z)
  refine jiL5 (p := 1081) rfl jM251 jq251_1079 ?_
  refine jw_if (p := 1084) rfl jM251 jq251_1081 (jc_ne hr jb_r0) (fun c0 => ?_) (fun c0 => ?_)
  · refine jw_goto jM251 jq251_1096 ?_
    refine jiI4 (p := 1416) rfl jM251 jq251_1413 ?_
    refine jw_goto jM251 jq251_1416 ?_
    exact k σ3 _ _ _ s3
  · have c0 := Decidable.byContradiction c0
    have hw := hv c0
    refine jaL3 (p := 1085) rfl jM251 jq251_1084 ?_
    refine jw_iconst (p := 1086) rfl jM251 jq251_1085 ?_
    refine jw_lald (p := 1087) rfl jM251 jq251_1086 s3 ?_
    refine jiL6 (p := 1089) rfl jM251 jq251_1087 ?_
    refine jw_i2l (p := 1090) rfl jM251 jq251_1089 ?_
    rw [hw]
    refine jw_lcmp0 (p := 1091) rfl jM251 jq251_1090 ?_
    refine jw_if (p := 1094) rfl jM251 jq251_1091 (jc_eq jb_r0 jb_r0) (fun _ => ?_) (fun z => absurd rfl z)
    refine jw_goto jM251 jq251_1096 ?_
    refine jiI4 (p := 1416) rfl jM251 jq251_1413 ?_
    refine jw_goto jM251 jq251_1416 ?_
    exact k σ3 _ _ _ s3
def js17 (K : jc_K) (G : jg_G) (a b e : Int) : Option (jc_K × jg_G) := (fc124 K).bind fun x => (fo217 G ).bind fun y => if x.2 = y.2 then some (x.1, y.1) else none
theorem jlc17 {d : Nat} {L : Nat} {xs : Nat → Int32} {K : jc_K} {G : jg_G} {o i : Int} {o5 o6 : Option Value} {σ : ib_H} {Q : ib_O → Prop} {r : jc_K × jg_G} (s : jl_S L xs K G o σ) (h0 : 0 ≤ i) (h1 : i + 4 ≤ L) (hL : L ≤ 2048) (hs : js17 K G (jl_x xs (i + 1)) (jl_x xs (i + 2)) (jl_x xs (i + 3)) = some r) (k : ∀ σ' o' o5 o6, jl_S L xs r.1 r.2 o' σ' → jb_w (d + 15) 251 23 [some (.ref 1), some (.ref 2), some (.ref 92), some (.ref 119), some (jb_v (i + 4)), o5, o6] [] σ' Q) : jb_w (d + 15) 251 1099 [some (.ref 1), some (.ref 2), some (.ref 92), some (.ref 119), some (jb_v i), o5, o6] [] σ Q := by
  unfold js17 at hs
  obtain ⟨x, hx, hs⟩ := jo_b hs
  obtain ⟨y, hy, hs⟩ := jo_b hs
  obtain ⟨hv, hs⟩ := jo_i hs
  cases hs
  refine jaL1 (p := 1100) rfl jM251 jq251_1099 ?_
  refine jw_callV [] jM251 jq251_1100 rfl rfl (jo_2 s.1) rfl jM124 rfl rfl ?_
  refine jd124 hx (fun σ2 t2 r2 => ?_) σ s.c
  have s2 := s.c' t2
  show jb_w (d + 15) 251 1103 [some (.ref 1), some (.ref 2), some (.ref 92), some (.ref 119), some (jb_v i), o5, o6] [(jb_v (x.2))] σ2 Q
  refine jaL2 (p := 1104) rfl jM251 jq251_1103 ?_
  refine jw_callV [] jM251 jq251_1104 rfl rfl (jo_92 s2.1) rfl jM217 rfl rfl ?_
  refine jf217  hy (fun σ3 t3 r3 => ?_) σ2 s2.g
  have s3 := s2.g' t3
  show jb_w (d + 15) 251 1107 [some (.ref 1), some (.ref 2), some (.ref 92), some (.ref 119), some (jb_v i), o5, o6] [(jb_v (y.2)), (jb_v (x.2))] σ3 Q
  refine jw_ic (p := 1110) rfl jM251 jq251_1107 (jc_eq r2 r3) (fun _ => ?_) (fun z => absurd hv z)
  refine jiI4 (p := 1416) rfl jM251 jq251_1413 ?_
  refine jw_goto jM251 jq251_1416 ?_
  exact k σ3 _ _ _ s3
def js18 (K : jc_K) (G : jg_G) (a b e : Int) : Option (jc_K × jg_G) := (fc125 K a b).bind fun x => (fo218 G a b).bind fun y => jl_cmp jl_m247 x y
theorem jlc18 {d : Nat} {L : Nat} {xs : Nat → Int32} {K : jc_K} {G : jg_G} {o i : Int} {o5 o6 : Option Value} {σ : ib_H} {Q : ib_O → Prop} {r : jc_K × jg_G} (s : jl_S L xs K G o σ) (h0 : 0 ≤ i) (h1 : i + 4 ≤ L) (hL : L ≤ 2048) (hs : js18 K G (jl_x xs (i + 1)) (jl_x xs (i + 2)) (jl_x xs (i + 3)) = some r) (k : ∀ σ' o' o5 o6, jl_S L xs r.1 r.2 o' σ' → jb_w (d + 15) 251 23 [some (.ref 1), some (.ref 2), some (.ref 92), some (.ref 119), some (jb_v (i + 4)), o5, o6] [] σ' Q) : jb_w (d + 15) 251 1112 [some (.ref 1), some (.ref 2), some (.ref 92), some (.ref 119), some (jb_v i), o5, o6] [] σ Q := by
  unfold js18 at hs
  obtain ⟨x, hx, hs⟩ := jo_b hs
  obtain ⟨y, hy, hs⟩ := jo_b hs
  obtain ⟨e1, he, ht, hv⟩ := jl_cmp_e o hs
  subst e1
  have hr : jb_r (jl_wr jl_m247 o x.2).1 := jl_m247_r _ _
  refine jaL1 (p := 1113) rfl jM251 jq251_1112 ?_
  refine jaL0 (p := 1114) rfl jM251 jq251_1113 ?_
  refine jiL4 (p := 1116) rfl jM251 jq251_1114 ?_
  refine jw_iconst (p := 1117) rfl jM251 jq251_1116 ?_
  refine jw_iadd (p := 1118) rfl jM251 jq251_1117 ?_
  refine jw_sald (p := 1119) rfl jM251 jq251_1118 s (by omega) (by omega) hL ?_
  refine jaL0 (p := 1120) rfl jM251 jq251_1119 ?_
  refine jiL4 (p := 1122) rfl jM251 jq251_1120 ?_
  refine jw_iconst (p := 1123) rfl jM251 jq251_1122 ?_
  refine jw_iadd (p := 1124) rfl jM251 jq251_1123 ?_
  refine jw_sald (p := 1125) rfl jM251 jq251_1124 s (by omega) (by omega) hL ?_
  refine jaL3 (p := 1126) rfl jM251 jq251_1125 ?_
  refine jw_callS [(.ref 2), (jb_v (jl_x xs (i + 1))), (jb_v (jl_x xs (i + 2))), (.ref 119)] jM251 jq251_1126 rfl rfl rfl jM247 rfl rfl ?_
  refine jl247 (jl_x_r _ _) (jl_x_r _ _) hx he s (fun σ2 s2 => ?_)
  show jb_w (d + 15) 251 1129 [some (.ref 1), some (.ref 2), some (.ref 92), some (.ref 119), some (jb_v i), o5, o6] [(jb_v ((jl_wr jl_m247 o x.2).1))] σ2 Q
  refine jiS5 (p := 1131) rfl jM251 jq251_1129 ?_
  refine jaL2 (p := 1132) rfl jM251 jq251_1131 ?_
  refine jaL0 (p := 1133) rfl jM251 jq251_1132 ?_
  refine jiL4 (p := 1135) rfl jM251 jq251_1133 ?_
  refine jw_iconst (p := 1136) rfl jM251 jq251_1135 ?_
  refine jw_iadd (p := 1137) rfl jM251 jq251_1136 ?_
  refine jw_sald (p := 1138) rfl jM251 jq251_1137 s2 (by omega) (by omega) hL ?_
  refine jaL0 (p := 1139) rfl jM251 jq251_1138 ?_
  refine jiL4 (p := 1141) rfl jM251 jq251_1139 ?_
  refine jw_iconst (p := 1142) rfl jM251 jq251_1141 ?_
  refine jw_iadd (p := 1143) rfl jM251 jq251_1142 ?_
  refine jw_sald (p := 1144) rfl jM251 jq251_1143 s2 (by omega) (by omega) hL ?_
  refine jw_callV [(jb_v (jl_x xs (i + 1))), (jb_v (jl_x xs (i + 2)))] jM251 jq251_1144 rfl rfl (jo_92 s2.1) rfl jM218 rfl rfl ?_
  refine jf218 (jl_x_r _ _) (jl_x_r _ _) hy (fun σ3 t3 r3 => ?_) σ2 s2.g
  have s3 := s2.g' t3
  show jb_w (d + 15) 251 1147 [some (.ref 1), some (.ref 2), some (.ref 92), some (.ref 119), some (jb_v i), some (jb_v ((jl_wr jl_m247 o x.2).1)), o6] [(jb_v (y.2))] σ3 Q
  refine jiS6 (p := 1149) rfl jM251 jq251_1147 ?_
  refine jaL2 (p := 1150) rfl jM251 jq251_1149 ?_
  refine jw_callV [] jM251 jq251_1150 rfl rfl (jo_92 s3.1) rfl jM146 rfl rfl ?_
  refine jk146_0 s3.1 ?_
  rw [s3.g.g (n := 92) (i := 0) (by decide) (by decide), ht]
  show jb_w (d + 15) 251 1153 [some (.ref 1), some (.ref 2), some (.ref 92), some (.ref 119), some (jb_v i), some (jb_v ((jl_wr jl_m247 o x.2).1)), some (jb_v (y.2))] [(jb_v ((jl_wr jl_m247 o x.2).1))] σ3 Q
  refine jiL5 (p := 1155) rfl jM251 jq251_1153 ?_
  refine jw_ic (p := 1158) rfl jM251 jq251_1155 (jc_eq hr hr) (fun _ => ?_) (fun z => absurd rfl z)
  refine jiL5 (p := 1162) rfl jM251 jq251_1160 ?_
  refine jw_if (p := 1165) rfl jM251 jq251_1162 (jc_ne hr jb_r0) (fun c0 => ?_) (fun c0 => ?_)
  · refine jw_goto jM251 jq251_1177 ?_
    refine jiI4 (p := 1416) rfl jM251 jq251_1413 ?_
    refine jw_goto jM251 jq251_1416 ?_
    exact k σ3 _ _ _ s3
  · have c0 := Decidable.byContradiction c0
    have hw := hv c0
    refine jaL3 (p := 1166) rfl jM251 jq251_1165 ?_
    refine jw_iconst (p := 1167) rfl jM251 jq251_1166 ?_
    refine jw_lald (p := 1168) rfl jM251 jq251_1167 s3 ?_
    refine jiL6 (p := 1170) rfl jM251 jq251_1168 ?_
    refine jw_i2l (p := 1171) rfl jM251 jq251_1170 ?_
    rw [hw]
    refine jw_lcmp0 (p := 1172) rfl jM251 jq251_1171 ?_
    refine jw_if (p := 1175) rfl jM251 jq251_1172 (jc_eq jb_r0 jb_r0) (fun _ => ?_) (fun z => absurd rfl z)
    refine jw_goto jM251 jq251_1177 ?_
    refine jiI4 (p := 1416) rfl jM251 jq251_1413 ?_
    refine jw_goto jM251 jq251_1416 ?_
    exact k σ3 _ _ _ s3
def js19 (K : jc_K) (G : jg_G) (a b e : Int) : Option (jc_K × jg_G) := (fc126 K).bind fun x => (fo219 G ).bind fun y => if x.2 = y.2 then some (x.1, y.1) else none
theorem jlc19 {d : Nat} {L : Nat} {xs : Nat → Int32} {K : jc_K} {G : jg_G} {o i : Int} {o5 o6 : Option Value} {σ : ib_H} {Q : ib_O → Prop} {r : jc_K × jg_G} (s : jl_S L xs K G o σ) (h0 : 0 ≤ i) (h1 : i + 4 ≤ L) (hL : L ≤ 2048) (hs : js19 K G (jl_x xs (i + 1)) (jl_x xs (i + 2)) (jl_x xs (i + 3)) = some r) (k : ∀ σ' o' o5 o6, jl_S L xs r.1 r.2 o' σ' → jb_w (d + 15) 251 23 [some (.ref 1), some (.ref 2), some (.ref 92), some (.ref 119), some (jb_v (i + 4)), o5, o6] [] σ' Q) : jb_w (d + 15) 251 1180 [some (.ref 1), some (.ref 2), some (.ref 92), some (.ref 119), some (jb_v i), o5, o6] [] σ Q := by
  unfold js19 at hs
  obtain ⟨x, hx, hs⟩ := jo_b hs
  obtain ⟨y, hy, hs⟩ := jo_b hs
  obtain ⟨hv, hs⟩ := jo_i hs
  cases hs
  refine jaL1 (p := 1181) rfl jM251 jq251_1180 ?_
  refine jw_callV [] jM251 jq251_1181 rfl rfl (jo_2 s.1) rfl jM126 rfl rfl ?_
  refine jd126 hx (fun σ2 t2 r2 => ?_) σ s.c
  have s2 := s.c' t2
  show jb_w (d + 15) 251 1184 [some (.ref 1), some (.ref 2), some (.ref 92), some (.ref 119), some (jb_v i), o5, o6] [(jb_v (x.2))] σ2 Q
  refine jaL2 (p := 1185) rfl jM251 jq251_1184 ?_
  refine jw_callV [] jM251 jq251_1185 rfl rfl (jo_92 s2.1) rfl jM219 rfl rfl ?_
  refine jf219  hy (fun σ3 t3 r3 => ?_) σ2 s2.g
  have s3 := s2.g' t3
  show jb_w (d + 15) 251 1188 [some (.ref 1), some (.ref 2), some (.ref 92), some (.ref 119), some (jb_v i), o5, o6] [(jb_v (y.2)), (jb_v (x.2))] σ3 Q
  refine jw_ic (p := 1191) rfl jM251 jq251_1188 (jc_eq r2 r3) (fun _ => ?_) (fun z => absurd hv z)
  refine jiI4 (p := 1416) rfl jM251 jq251_1413 ?_
  refine jw_goto jM251 jq251_1416 ?_
  exact k σ3 _ _ _ s3
def js20 (K : jc_K) (G : jg_G) (a b e : Int) : Option (jc_K × jg_G) := (fc127 K).bind fun x => (fo220 G ).bind fun y => if x.2 = y.2 then some (x.1, y.1) else none
theorem jlc20 {d : Nat} {L : Nat} {xs : Nat → Int32} {K : jc_K} {G : jg_G} {o i : Int} {o5 o6 : Option Value} {σ : ib_H} {Q : ib_O → Prop} {r : jc_K × jg_G} (s : jl_S L xs K G o σ) (h0 : 0 ≤ i) (h1 : i + 4 ≤ L) (hL : L ≤ 2048) (hs : js20 K G (jl_x xs (i + 1)) (jl_x xs (i + 2)) (jl_x xs (i + 3)) = some r) (k : ∀ σ' o' o5 o6, jl_S L xs r.1 r.2 o' σ' → jb_w (d + 15) 251 23 [some (.ref 1), some (.ref 2), some (.ref 92), some (.ref 119), some (jb_v (i + 4)), o5, o6] [] σ' Q) : jb_w (d + 15) 251 1193 [some (.ref 1), some (.ref 2), some (.ref 92), some (.ref 119), some (jb_v i), o5, o6] [] σ Q := by
  unfold js20 at hs
  obtain ⟨x, hx, hs⟩ := jo_b hs
  obtain ⟨y, hy, hs⟩ := jo_b hs
  obtain ⟨hv, hs⟩ := jo_i hs
  cases hs
  refine jaL1 (p := 1194) rfl jM251 jq251_1193 ?_
  refine jw_callV [] jM251 jq251_1194 rfl rfl (jo_2 s.1) rfl jM127 rfl rfl ?_
  refine jd127 hx (fun σ2 t2 r2 => ?_) σ s.c
  have s2 := s.c' t2
  show jb_w (d + 15) 251 1197 [some (.ref 1), some (.ref 2), some (.ref 92), some (.ref 119), some (jb_v i), o5, o6] [(jb_v (x.2))] σ2 Q
  refine jaL2 (p := 1198) rfl jM251 jq251_1197 ?_
  refine jw_callV [] jM251 jq251_1198 rfl rfl (jo_92 s2.1) rfl jM220 rfl rfl ?_
  refine jf220  hy (fun σ3 t3 r3 => ?_) σ2 s2.g
  have s3 := s2.g' t3
  show jb_w (d + 15) 251 1201 [some (.ref 1), some (.ref 2), some (.ref 92), some (.ref 119), some (jb_v i), o5, o6] [(jb_v (y.2)), (jb_v (x.2))] σ3 Q
  refine jw_ic (p := 1204) rfl jM251 jq251_1201 (jc_eq r2 r3) (fun _ => ?_) (fun z => absurd hv z)
  refine jiI4 (p := 1416) rfl jM251 jq251_1413 ?_
  refine jw_goto jM251 jq251_1416 ?_
  exact k σ3 _ _ _ s3
def js21 (K : jc_K) (G : jg_G) (a b e : Int) : Option (jc_K × jg_G) := (fc128 K).bind fun x => (fo221 G ).bind fun y => if x.2 = y.2 then some (x.1, y.1) else none
theorem jlc21 {d : Nat} {L : Nat} {xs : Nat → Int32} {K : jc_K} {G : jg_G} {o i : Int} {o5 o6 : Option Value} {σ : ib_H} {Q : ib_O → Prop} {r : jc_K × jg_G} (s : jl_S L xs K G o σ) (h0 : 0 ≤ i) (h1 : i + 4 ≤ L) (hL : L ≤ 2048) (hs : js21 K G (jl_x xs (i + 1)) (jl_x xs (i + 2)) (jl_x xs (i + 3)) = some r) (k : ∀ σ' o' o5 o6, jl_S L xs r.1 r.2 o' σ' → jb_w (d + 15) 251 23 [some (.ref 1), some (.ref 2), some (.ref 92), some (.ref 119), some (jb_v (i + 4)), o5, o6] [] σ' Q) : jb_w (d + 15) 251 1206 [some (.ref 1), some (.ref 2), some (.ref 92), some (.ref 119), some (jb_v i), o5, o6] [] σ Q := by
  unfold js21 at hs
  obtain ⟨x, hx, hs⟩ := jo_b hs
  obtain ⟨y, hy, hs⟩ := jo_b hs
  obtain ⟨hv, hs⟩ := jo_i hs
  cases hs
  refine jaL1 (p := 1207) rfl jM251 jq251_1206 ?_
  refine jw_callV [] jM251 jq251_1207 rfl rfl (jo_2 s.1) rfl jM128 rfl rfl ?_
  refine jd128 hx (fun σ2 t2 r2 => ?_) σ s.c
  have s2 := s.c' t2
  show jb_w (d + 15) 251 1210 [some (.ref 1), some (.ref 2), some (.ref 92), some (.ref 119), some (jb_v i), o5, o6] [(jb_v (x.2))] σ2 Q
  refine jaL2 (p := 1211) rfl jM251 jq251_1210 ?_
  refine jw_callV [] jM251 jq251_1211 rfl rfl (jo_92 s2.1) rfl jM221 rfl rfl ?_
  refine jf221  hy (fun σ3 t3 r3 => ?_) σ2 s2.g
  have s3 := s2.g' t3
  show jb_w (d + 15) 251 1214 [some (.ref 1), some (.ref 2), some (.ref 92), some (.ref 119), some (jb_v i), o5, o6] [(jb_v (y.2)), (jb_v (x.2))] σ3 Q
  refine jw_ic (p := 1217) rfl jM251 jq251_1214 (jc_eq r2 r3) (fun _ => ?_) (fun z => absurd hv z)
  refine jiI4 (p := 1416) rfl jM251 jq251_1413 ?_
  refine jw_goto jM251 jq251_1416 ?_
  exact k σ3 _ _ _ s3
def js22 (K : jc_K) (G : jg_G) (a b e : Int) : Option (jc_K × jg_G) := (fc129 K a).bind fun x => (fo222 G a).bind fun y => jl_cmp jl_m248 x y
theorem jlc22 {d : Nat} {L : Nat} {xs : Nat → Int32} {K : jc_K} {G : jg_G} {o i : Int} {o5 o6 : Option Value} {σ : ib_H} {Q : ib_O → Prop} {r : jc_K × jg_G} (s : jl_S L xs K G o σ) (h0 : 0 ≤ i) (h1 : i + 4 ≤ L) (hL : L ≤ 2048) (hs : js22 K G (jl_x xs (i + 1)) (jl_x xs (i + 2)) (jl_x xs (i + 3)) = some r) (k : ∀ σ' o' o5 o6, jl_S L xs r.1 r.2 o' σ' → jb_w (d + 15) 251 23 [some (.ref 1), some (.ref 2), some (.ref 92), some (.ref 119), some (jb_v (i + 4)), o5, o6] [] σ' Q) : jb_w (d + 15) 251 1219 [some (.ref 1), some (.ref 2), some (.ref 92), some (.ref 119), some (jb_v i), o5, o6] [] σ Q := by
  unfold js22 at hs
  obtain ⟨x, hx, hs⟩ := jo_b hs
  obtain ⟨y, hy, hs⟩ := jo_b hs
  obtain ⟨e1, he, ht, hv⟩ := jl_cmp_e o hs
  subst e1
  have hr : jb_r (jl_wr jl_m248 o x.2).1 := jl_m248_r _ _
  refine jaL1 (p := 1220) rfl jM251 jq251_1219 ?_
  refine jaL0 (p := 1221) rfl jM251 jq251_1220 ?_
  refine jiL4 (p := 1223) rfl jM251 jq251_1221 ?_
  refine jw_iconst (p := 1224) rfl jM251 jq251_1223 ?_
  refine jw_iadd (p := 1225) rfl jM251 jq251_1224 ?_
  refine jw_sald (p := 1226) rfl jM251 jq251_1225 s (by omega) (by omega) hL ?_
  refine jaL3 (p := 1227) rfl jM251 jq251_1226 ?_
  refine jw_callS [(.ref 2), (jb_v (jl_x xs (i + 1))), (.ref 119)] jM251 jq251_1227 rfl rfl rfl jM248 rfl rfl ?_
  refine jl248 (jl_x_r _ _) hx he s (fun σ2 s2 => ?_)
  show jb_w (d + 15) 251 1230 [some (.ref 1), some (.ref 2), some (.ref 92), some (.ref 119), some (jb_v i), o5, o6] [(jb_v ((jl_wr jl_m248 o x.2).1))] σ2 Q
  refine jiS5 (p := 1232) rfl jM251 jq251_1230 ?_
  refine jaL2 (p := 1233) rfl jM251 jq251_1232 ?_
  refine jaL0 (p := 1234) rfl jM251 jq251_1233 ?_
  refine jiL4 (p := 1236) rfl jM251 jq251_1234 ?_
  refine jw_iconst (p := 1237) rfl jM251 jq251_1236 ?_
  refine jw_iadd (p := 1238) rfl jM251 jq251_1237 ?_
  refine jw_sald (p := 1239) rfl jM251 jq251_1238 s2 (by omega) (by omega) hL ?_
  refine jw_callV [(jb_v (jl_x xs (i + 1)))] jM251 jq251_1239 rfl rfl (jo_92 s2.1) rfl jM222 rfl rfl ?_
  refine jf222 (jl_x_r _ _) hy (fun σ3 t3 r3 => ?_) σ2 s2.g
  have s3 := s2.g' t3
  show jb_w (d + 15) 251 1242 [some (.ref 1), some (.ref 2), some (.ref 92), some (.ref 119), some (jb_v i), some (jb_v ((jl_wr jl_m248 o x.2).1)), o6] [(jb_v (y.2))] σ3 Q
  refine jiS6 (p := 1244) rfl jM251 jq251_1242 ?_
  refine jaL2 (p := 1245) rfl jM251 jq251_1244 ?_
  refine jw_callV [] jM251 jq251_1245 rfl rfl (jo_92 s3.1) rfl jM146 rfl rfl ?_
  refine jk146_0 s3.1 ?_
  rw [s3.g.g (n := 92) (i := 0) (by decide) (by decide), ht]
  show jb_w (d + 15) 251 1248 [some (.ref 1), some (.ref 2), some (.ref 92), some (.ref 119), some (jb_v i), some (jb_v ((jl_wr jl_m248 o x.2).1)), some (jb_v (y.2))] [(jb_v ((jl_wr jl_m248 o x.2).1))] σ3 Q
  refine jiL5 (p := 1250) rfl jM251 jq251_1248 ?_
  refine jw_ic (p := 1253) rfl jM251 jq251_1250 (jc_eq hr hr) (fun _ => ?_) (fun z => absurd rfl z)
  refine jiL5 (p := 1257) rfl jM251 jq251_1255 ?_
  refine jw_if (p := 1260) rfl jM251 jq251_1257 (jc_ne hr jb_r0) (fun c0 => ?_) (fun c0 => ?_)
  · refine jw_goto jM251 jq251_1272 ?_
    refine jiI4 (p := 1416) rfl jM251 jq251_1413 ?_
    refine jw_goto jM251 jq251_1416 ?_
    exact k σ3 _ _ _ s3
  · have c0 := Decidable.byContradiction c0
    have hw := hv c0
    refine jaL3 (p := 1261) rfl jM251 jq251_1260 ?_
    refine jw_iconst (p := 1262) rfl jM251 jq251_1261 ?_
    refine jw_lald (p := 1263) rfl jM251 jq251_1262 s3 ?_
    refine jiL6 (p := 1265) rfl jM251 jq251_1263 ?_
    refine jw_i2l (p := 1266) rfl jM251 jq251_1265 ?_
    rw [hw]
    refine jw_lcmp0 (p := 1267) rfl jM251 jq251_1266 ?_
    refine jw_if (p := 1270) rfl jM251 jq251_1267 (jc_eq jb_r0 jb_r0) (fun _ => ?_) (fun z => absurd rfl z)
    refine jw_goto jM251 jq251_1272 ?_
    refine jiI4 (p := 1416) rfl jM251 jq251_1413 ?_
    refine jw_goto jM251 jq251_1416 ?_
    exact k σ3 _ _ _ s3
def js23 (K : jc_K) (G : jg_G) (a b e : Int) : Option (jc_K × jg_G) := (fc130 K a).bind fun x => (fo223 G a).bind fun y => jl_cmp jl_m249 x y
theorem jlc23 {d : Nat} {L : Nat} {xs : Nat → Int32} {K : jc_K} {G : jg_G} {o i : Int} {o5 o6 : Option Value} {σ : ib_H} {Q : ib_O → Prop} {r : jc_K × jg_G} (s : jl_S L xs K G o σ) (h0 : 0 ≤ i) (h1 : i + 4 ≤ L) (hL : L ≤ 2048) (hs : js23 K G (jl_x xs (i + 1)) (jl_x xs (i + 2)) (jl_x xs (i + 3)) = some r) (k : ∀ σ' o' o5 o6, jl_S L xs r.1 r.2 o' σ' → jb_w (d + 15) 251 23 [some (.ref 1), some (.ref 2), some (.ref 92), some (.ref 119), some (jb_v (i + 4)), o5, o6] [] σ' Q) : jb_w (d + 15) 251 1275 [some (.ref 1), some (.ref 2), some (.ref 92), some (.ref 119), some (jb_v i), o5, o6] [] σ Q := by
  unfold js23 at hs
  obtain ⟨x, hx, hs⟩ := jo_b hs
  obtain ⟨y, hy, hs⟩ := jo_b hs
  obtain ⟨e1, he, ht, hv⟩ := jl_cmp_e o hs
  subst e1
  have hr : jb_r (jl_wr jl_m249 o x.2).1 := jl_m249_r _ _
  refine jaL1 (p := 1276) rfl jM251 jq251_1275 ?_
  refine jaL0 (p := 1277) rfl jM251 jq251_1276 ?_
  refine jiL4 (p := 1279) rfl jM251 jq251_1277 ?_
  refine jw_iconst (p := 1280) rfl jM251 jq251_1279 ?_
  refine jw_iadd (p := 1281) rfl jM251 jq251_1280 ?_
  refine jw_sald (p := 1282) rfl jM251 jq251_1281 s (by omega) (by omega) hL ?_
  refine jaL3 (p := 1283) rfl jM251 jq251_1282 ?_
  refine jw_callS [(.ref 2), (jb_v (jl_x xs (i + 1))), (.ref 119)] jM251 jq251_1283 rfl rfl rfl jM249 rfl rfl ?_
  refine jl249 (jl_x_r _ _) hx he s (fun σ2 s2 => ?_)
  show jb_w (d + 15) 251 1286 [some (.ref 1), some (.ref 2), some (.ref 92), some (.ref 119), some (jb_v i), o5, o6] [(jb_v ((jl_wr jl_m249 o x.2).1))] σ2 Q
  refine jiS5 (p := 1288) rfl jM251 jq251_1286 ?_
  refine jaL2 (p := 1289) rfl jM251 jq251_1288 ?_
  refine jaL0 (p := 1290) rfl jM251 jq251_1289 ?_
  refine jiL4 (p := 1292) rfl jM251 jq251_1290 ?_
  refine jw_iconst (p := 1293) rfl jM251 jq251_1292 ?_
  refine jw_iadd (p := 1294) rfl jM251 jq251_1293 ?_
  refine jw_sald (p := 1295) rfl jM251 jq251_1294 s2 (by omega) (by omega) hL ?_
  refine jw_callV [(jb_v (jl_x xs (i + 1)))] jM251 jq251_1295 rfl rfl (jo_92 s2.1) rfl jM223 rfl rfl ?_
  refine jf223 (jl_x_r _ _) hy (fun σ3 t3 r3 => ?_) σ2 s2.g
  have s3 := s2.g' t3
  show jb_w (d + 15) 251 1298 [some (.ref 1), some (.ref 2), some (.ref 92), some (.ref 119), some (jb_v i), some (jb_v ((jl_wr jl_m249 o x.2).1)), o6] [(jb_v (y.2))] σ3 Q
  refine jiS6 (p := 1300) rfl jM251 jq251_1298 ?_
  refine jaL2 (p := 1301) rfl jM251 jq251_1300 ?_
  refine jw_callV [] jM251 jq251_1301 rfl rfl (jo_92 s3.1) rfl jM146 rfl rfl ?_
  refine jk146_0 s3.1 ?_
  rw [s3.g.g (n := 92) (i := 0) (by decide) (by decide), ht]
  show jb_w (d + 15) 251 1304 [some (.ref 1), some (.ref 2), some (.ref 92), some (.ref 119), some (jb_v i), some (jb_v ((jl_wr jl_m249 o x.2).1)), some (jb_v (y.2))] [(jb_v ((jl_wr jl_m249 o x.2).1))] σ3 Q
  refine jiL5 (p := 1306) rfl jM251 jq251_1304 ?_
  refine jw_ic (p := 1309) rfl jM251 jq251_1306 (jc_eq hr hr) (fun _ => ?_) (fun z => absurd rfl z)
  refine jiL5 (p := 1313) rfl jM251 jq251_1311 ?_
  refine jw_if (p := 1316) rfl jM251 jq251_1313 (jc_ne hr jb_r0) (fun c0 => ?_) (fun c0 => ?_)
  · refine jw_goto jM251 jq251_1328 ?_
    refine jiI4 (p := 1416) rfl jM251 jq251_1413 ?_
    refine jw_goto jM251 jq251_1416 ?_
    exact k σ3 _ _ _ s3
  · have c0 := Decidable.byContradiction c0
    have hw := hv c0
    refine jaL3 (p := 1317) rfl jM251 jq251_1316 ?_
    refine jw_iconst (p := 1318) rfl jM251 jq251_1317 ?_
    refine jw_lald (p := 1319) rfl jM251 jq251_1318 s3 ?_
    refine jiL6 (p := 1321) rfl jM251 jq251_1319 ?_
    refine jw_i2l (p := 1322) rfl jM251 jq251_1321 ?_
    rw [hw]
    refine jw_lcmp0 (p := 1323) rfl jM251 jq251_1322 ?_
    refine jw_if (p := 1326) rfl jM251 jq251_1323 (jc_eq jb_r0 jb_r0) (fun _ => ?_) (fun z => absurd rfl z)
    refine jw_goto jM251 jq251_1328 ?_
    refine jiI4 (p := 1416) rfl jM251 jq251_1413 ?_
    refine jw_goto jM251 jq251_1416 ?_
    exact k σ3 _ _ _ s3
def js24 (K : jc_K) (G : jg_G) (a b e : Int) : Option (jc_K × jg_G) := (fc131 K a).bind fun x => (fo225 G a).bind fun y => jl_cmp jl_m250 x y
theorem jlc24 {d : Nat} {L : Nat} {xs : Nat → Int32} {K : jc_K} {G : jg_G} {o i : Int} {o5 o6 : Option Value} {σ : ib_H} {Q : ib_O → Prop} {r : jc_K × jg_G} (s : jl_S L xs K G o σ) (h0 : 0 ≤ i) (h1 : i + 4 ≤ L) (hL : L ≤ 2048) (hs : js24 K G (jl_x xs (i + 1)) (jl_x xs (i + 2)) (jl_x xs (i + 3)) = some r) (k : ∀ σ' o' o5 o6, jl_S L xs r.1 r.2 o' σ' → jb_w (d + 15) 251 23 [some (.ref 1), some (.ref 2), some (.ref 92), some (.ref 119), some (jb_v (i + 4)), o5, o6] [] σ' Q) : jb_w (d + 15) 251 1331 [some (.ref 1), some (.ref 2), some (.ref 92), some (.ref 119), some (jb_v i), o5, o6] [] σ Q := by
  unfold js24 at hs
  obtain ⟨x, hx, hs⟩ := jo_b hs
  obtain ⟨y, hy, hs⟩ := jo_b hs
  obtain ⟨e1, he, ht, hv⟩ := jl_cmp_e o hs
  subst e1
  have hr : jb_r (jl_wr jl_m250 o x.2).1 := jl_m250_r _ _
  refine jaL1 (p := 1332) rfl jM251 jq251_1331 ?_
  refine jaL0 (p := 1333) rfl jM251 jq251_1332 ?_
  refine jiL4 (p := 1335) rfl jM251 jq251_1333 ?_
  refine jw_iconst (p := 1336) rfl jM251 jq251_1335 ?_
  refine jw_iadd (p := 1337) rfl jM251 jq251_1336 ?_
  refine jw_sald (p := 1338) rfl jM251 jq251_1337 s (by omega) (by omega) hL ?_
  refine jaL3 (p := 1339) rfl jM251 jq251_1338 ?_
  refine jw_callS [(.ref 2), (jb_v (jl_x xs (i + 1))), (.ref 119)] jM251 jq251_1339 rfl rfl rfl jM250 rfl rfl ?_
  refine jl250 (jl_x_r _ _) hx he s (fun σ2 s2 => ?_)
  show jb_w (d + 15) 251 1342 [some (.ref 1), some (.ref 2), some (.ref 92), some (.ref 119), some (jb_v i), o5, o6] [(jb_v ((jl_wr jl_m250 o x.2).1))] σ2 Q
  refine jiS5 (p := 1344) rfl jM251 jq251_1342 ?_
  refine jaL2 (p := 1345) rfl jM251 jq251_1344 ?_
  refine jaL0 (p := 1346) rfl jM251 jq251_1345 ?_
  refine jiL4 (p := 1348) rfl jM251 jq251_1346 ?_
  refine jw_iconst (p := 1349) rfl jM251 jq251_1348 ?_
  refine jw_iadd (p := 1350) rfl jM251 jq251_1349 ?_
  refine jw_sald (p := 1351) rfl jM251 jq251_1350 s2 (by omega) (by omega) hL ?_
  refine jw_callV [(jb_v (jl_x xs (i + 1)))] jM251 jq251_1351 rfl rfl (jo_92 s2.1) rfl jM225 rfl rfl ?_
  refine jf225 (jl_x_r _ _) hy (fun σ3 t3 r3 => ?_) σ2 s2.g
  have s3 := s2.g' t3
  show jb_w (d + 15) 251 1354 [some (.ref 1), some (.ref 2), some (.ref 92), some (.ref 119), some (jb_v i), some (jb_v ((jl_wr jl_m250 o x.2).1)), o6] [(jb_v (y.2))] σ3 Q
  refine jiS6 (p := 1356) rfl jM251 jq251_1354 ?_
  refine jaL2 (p := 1357) rfl jM251 jq251_1356 ?_
  refine jw_callV [] jM251 jq251_1357 rfl rfl (jo_92 s3.1) rfl jM146 rfl rfl ?_
  refine jk146_0 s3.1 ?_
  rw [s3.g.g (n := 92) (i := 0) (by decide) (by decide), ht]
  show jb_w (d + 15) 251 1360 [some (.ref 1), some (.ref 2), some (.ref 92), some (.ref 119), some (jb_v i), some (jb_v ((jl_wr jl_m250 o x.2).1)), some (jb_v (y.2))] [(jb_v ((jl_wr jl_m250 o x.2).1))] σ3 Q
  refine jiL5 (p := 1362) rfl jM251 jq251_1360 ?_
  refine jw_ic (p := 1365) rfl jM251 jq251_1362 (jc_eq hr hr) (fun _ => ?_) (fun z => absurd rfl z)
  refine jiL5 (p := 1369) rfl jM251 jq251_1367 ?_
  refine jw_if (p := 1372) rfl jM251 jq251_1369 (jc_ne hr jb_r0) (fun c0 => ?_) (fun c0 => ?_)
  · refine jw_goto jM251 jq251_1384 ?_
    refine jiI4 (p := 1416) rfl jM251 jq251_1413 ?_
    refine jw_goto jM251 jq251_1416 ?_
    exact k σ3 _ _ _ s3
  · have c0 := Decidable.byContradiction c0
    have hw := hv c0
    refine jaL3 (p := 1373) rfl jM251 jq251_1372 ?_
    refine jw_iconst (p := 1374) rfl jM251 jq251_1373 ?_
    refine jw_lald (p := 1375) rfl jM251 jq251_1374 s3 ?_
    refine jiL6 (p := 1377) rfl jM251 jq251_1375 ?_
    refine jw_i2l (p := 1378) rfl jM251 jq251_1377 ?_
    rw [hw]
    refine jw_lcmp0 (p := 1379) rfl jM251 jq251_1378 ?_
    refine jw_if (p := 1382) rfl jM251 jq251_1379 (jc_eq jb_r0 jb_r0) (fun _ => ?_) (fun z => absurd rfl z)
    refine jw_goto jM251 jq251_1384 ?_
    refine jiI4 (p := 1416) rfl jM251 jq251_1413 ?_
    refine jw_goto jM251 jq251_1416 ?_
    exact k σ3 _ _ _ s3
def js25 (K : jc_K) (G : jg_G) (a b e : Int) : Option (jc_K × jg_G) := (fc132 K).bind fun x => (fo227 G ).bind fun y => if x.2 = y.2 then some (x.1, y.1) else none
theorem jlc25 {d : Nat} {L : Nat} {xs : Nat → Int32} {K : jc_K} {G : jg_G} {o i : Int} {o5 o6 : Option Value} {σ : ib_H} {Q : ib_O → Prop} {r : jc_K × jg_G} (s : jl_S L xs K G o σ) (h0 : 0 ≤ i) (h1 : i + 4 ≤ L) (hL : L ≤ 2048) (hs : js25 K G (jl_x xs (i + 1)) (jl_x xs (i + 2)) (jl_x xs (i + 3)) = some r) (k : ∀ σ' o' o5 o6, jl_S L xs r.1 r.2 o' σ' → jb_w (d + 15) 251 23 [some (.ref 1), some (.ref 2), some (.ref 92), some (.ref 119), some (jb_v (i + 4)), o5, o6] [] σ' Q) : jb_w (d + 15) 251 1387 [some (.ref 1), some (.ref 2), some (.ref 92), some (.ref 119), some (jb_v i), o5, o6] [] σ Q := by
  unfold js25 at hs
  obtain ⟨x, hx, hs⟩ := jo_b hs
  obtain ⟨y, hy, hs⟩ := jo_b hs
  obtain ⟨hv, hs⟩ := jo_i hs
  cases hs
  refine jaL1 (p := 1388) rfl jM251 jq251_1387 ?_
  refine jw_callV [] jM251 jq251_1388 rfl rfl (jo_2 s.1) rfl jM132 rfl rfl ?_
  refine jd132 hx (fun σ2 t2 r2 => ?_) σ s.c
  have s2 := s.c' t2
  show jb_w (d + 15) 251 1391 [some (.ref 1), some (.ref 2), some (.ref 92), some (.ref 119), some (jb_v i), o5, o6] [(jb_v (x.2))] σ2 Q
  refine jaL2 (p := 1392) rfl jM251 jq251_1391 ?_
  refine jw_callV [] jM251 jq251_1392 rfl rfl (jo_92 s2.1) rfl jM227 rfl rfl ?_
  refine jf227  hy (fun σ3 t3 r3 => ?_) σ2 s2.g
  have s3 := s2.g' t3
  show jb_w (d + 15) 251 1395 [some (.ref 1), some (.ref 2), some (.ref 92), some (.ref 119), some (jb_v i), o5, o6] [(jb_v (y.2)), (jb_v (x.2))] σ3 Q
  refine jw_ic (p := 1398) rfl jM251 jq251_1395 (jc_eq r2 r3) (fun _ => ?_) (fun z => absurd hv z)
  refine jiI4 (p := 1416) rfl jM251 jq251_1413 ?_
  refine jw_goto jM251 jq251_1416 ?_
  exact k σ3 _ _ _ s3
def js26 (K : jc_K) (G : jg_G) (a b e : Int) : Option (jc_K × jg_G) := (fc133 K).bind fun x => (fo230 G ).bind fun y => if x.2 = y.2 then some (x.1, y.1) else none
theorem jlc26 {d : Nat} {L : Nat} {xs : Nat → Int32} {K : jc_K} {G : jg_G} {o i : Int} {o5 o6 : Option Value} {σ : ib_H} {Q : ib_O → Prop} {r : jc_K × jg_G} (s : jl_S L xs K G o σ) (h0 : 0 ≤ i) (h1 : i + 4 ≤ L) (hL : L ≤ 2048) (hs : js26 K G (jl_x xs (i + 1)) (jl_x xs (i + 2)) (jl_x xs (i + 3)) = some r) (k : ∀ σ' o' o5 o6, jl_S L xs r.1 r.2 o' σ' → jb_w (d + 15) 251 23 [some (.ref 1), some (.ref 2), some (.ref 92), some (.ref 119), some (jb_v (i + 4)), o5, o6] [] σ' Q) : jb_w (d + 15) 251 1400 [some (.ref 1), some (.ref 2), some (.ref 92), some (.ref 119), some (jb_v i), o5, o6] [] σ Q := by
  unfold js26 at hs
  obtain ⟨x, hx, hs⟩ := jo_b hs
  obtain ⟨y, hy, hs⟩ := jo_b hs
  obtain ⟨hv, hs⟩ := jo_i hs
  cases hs
  refine jaL1 (p := 1401) rfl jM251 jq251_1400 ?_
  refine jw_callV [] jM251 jq251_1401 rfl rfl (jo_2 s.1) rfl jM133 rfl rfl ?_
  refine jd133 hx (fun σ2 t2 r2 => ?_) σ s.c
  have s2 := s.c' t2
  show jb_w (d + 15) 251 1404 [some (.ref 1), some (.ref 2), some (.ref 92), some (.ref 119), some (jb_v i), o5, o6] [(jb_v (x.2))] σ2 Q
  refine jaL2 (p := 1405) rfl jM251 jq251_1404 ?_
  refine jw_callV [] jM251 jq251_1405 rfl rfl (jo_92 s2.1) rfl jM230 rfl rfl ?_
  refine jf230  hy (fun σ3 t3 r3 => ?_) σ2 s2.g
  have s3 := s2.g' t3
  show jb_w (d + 15) 251 1408 [some (.ref 1), some (.ref 2), some (.ref 92), some (.ref 119), some (jb_v i), o5, o6] [(jb_v (y.2)), (jb_v (x.2))] σ3 Q
  refine jw_ic (p := 1411) rfl jM251 jq251_1408 (jc_eq r2 r3) (fun _ => ?_) (fun z => absurd hv z)
  refine jiI4 (p := 1416) rfl jM251 jq251_1413 ?_
  refine jw_goto jM251 jq251_1416 ?_
  exact k σ3 _ _ _ s3
