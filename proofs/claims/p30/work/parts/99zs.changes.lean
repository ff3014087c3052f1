/-! THE LAW: changes -/
section Cg
variable {K : jc_K} {V G : jg_G} {N k : Nat} {W : jZW} {t : Int}
/-- what a turn's part comes to -/
def jTo (o : Option ((jc_K × jg_G) × Int)) (k : Nat) : Prop := ∃ K' V' G' N' k' W', o = some ((K', V'), 1) ∧ k' ≤ k ∧ jSt K' G' N' k' W' ∧ jRl V' G' N' ∧ jRz G' N'
/-- the change is taken down -/
theorem jl176 (hs : jSt K G N k W) (hk : k ≤ 512) (hR : jRl V G N) (ht : 0 ≤ t ∧ t < 4) (o : G 107 t = 1) {key value z due told act : Int} (hkey : 0 ≤ key ∧ key < 32) {V0 : jg_G} (hV : V = jrc V0 t key (if act = 0 then value else -1) (G 108 t)) (h12 : 0 ≤ V0 94 (12 + t) ∧ V0 94 (12 + t) ≤ 15) (h8 : 0 ≤ V0 94 (8 + t) ∧ V0 94 (8 + t) ≤ 2000) (h110 : G 110 t = -1) (hz : jRz G N) (hd : (act = 0 ∧ told = 0) ∨ (act = 1 ∧ told = V0 92 key)) : jTo (fl152_176 K V0 act t z key value due told) k := by
  obtain ⟨K', p1, p2⟩ := jplace hs ht o
  have eX : jg_u (jg_u (jg_u (jg_u V0 95 (16 * t + V0 94 (12 + t)) (G 108 t)) 96 (16 * t + V0 94 (12 + t)) key) 97 (16 * t + V0 94 (12 + t)) (V0 92 key)) 94 (12 + t) (V0 94 (12 + t) + 1) 94 (8 + t) = V0 94 (8 + t) := by
    rw [jg_uI (by omega), jg_uN (by decide), jg_uN (by decide), jg_uN (by decide)]
  have eV : jg_u V 94 t (-1) = V := jg_uS (by rw [(hR.2 t ht.1 ht.2).1.1]; exact h110)
  have R2 := hR.w ht
  rw [eV] at R2
  refine ⟨K', V, _, N, k, _, ?_, Nat.le_refl _, p2, R2, hz.w⟩
  unfold fl152_176
  rw [if_pos (by omega), if_pos (by omega), jy_inl p1, jo_bs]
  dsimp only
  rw [if_pos (by omega), if_pos (by omega), if_pos (by omega), eX, if_pos (by omega)]
  rcases hd with ⟨e, e2⟩ | ⟨e, e2⟩
  · rw [if_pos e] at hV
    rw [if_pos e, if_pos e2, hV]
    rfl
  · rw [if_neg (by omega)] at hV
    rw [if_neg (by omega), if_pos e2, hV]
    rfl
theorem jTo.of {K' : jc_K} {V' G' : jg_G} {N' k' k2 : Nat} {W' : jZW} {o : Option ((jc_K × jg_G) × Int)} (e : o = some ((K', V'), 1)) (hk : k' ≤ k2) (hs : jSt K' G' N' k' W') (hR : jRl V' G' N') (hz : jRz G' N') : jTo o k2 := ⟨K', V', G', N', k', W', e, hk, hs, hR, hz⟩
theorem jTo.le {o : Option ((jc_K × jg_G) × Int)} {k k2 : Nat} (h : jTo o k) (hk : k ≤ k2) : jTo o k2 := by
  obtain ⟨K', V', G', N', k', W', a, b, c⟩ := h
  exact ⟨K', V', G', N', k', W', a, by omega, c⟩
/-- told: a crash -/
theorem jl_fell {K' : jc_K} {G' V' : jg_G} {W' : jZW} {k' : Nat} (hf : jSf K' G' k' W') (hk : k' + 2 ≤ 512) (hb : ∀ k, 0 ≤ k → k < 32 → -1 ≤ V' 93 k ∧ V' 93 k < 4) (hv : ∀ y, 0 ≤ y → y < 32 → V' 92 (32 + y) = G' 113 (-1 - y)) : jTo ((fl149 K' V').bind fun x16 => if x16.2 = 0 ∨ x16.2 = 1 then some ((x16.1.1, x16.1.2), x16.2) else none) (k' + 2) := by
  obtain ⟨K2, V2, G2, N2, k2, W2, a1, a2, a3, a4, a5, _⟩ := jl149 hf hk hb hv
  refine ⟨K2, V2, G2, N2, k2, W2, ?_, a2, a3, a4, a5⟩
  rw [a1, jo_bs]
  dsimp only
  rw [if_pos (Or.inr rfl)]
theorem jl152 (hs : jSt K G N k W) (hk : k + 5 ≤ 512) (hR : jRl V G N) (hz : jRz G N) (ht : 0 ≤ t ∧ t < 4) (o : G 107 t = 1) (hN : N < 200) (hl : (jzL G t N).length < 14) {act z : Int} (ha : act = 0 ∨ act = 1 ∨ act = 2) : jTo (fl152 K V act t z) (k + 3) := by
  have bk := jl_low_b (v := z) (n := 24) (by decide)
  have bv := jl_low_b (v := jl_sh z 5) (n := 1000) (by decide)
  unfold fl152 jo_l
  dsimp only
  generalize jl_low z 24 = key at *
  generalize jl_low (jl_sh z 5) 1000 = value at *
  have hkey : 0 ≤ key ∧ key < 32 := by omega
  -- told by the class, told by the rows
  have fell : ∀ {c : Int} {K' : jc_K} {G' : jg_G}, c = -4 → jSf K' G' (k + 1) (W.1, 0, W.2.2) → ∃ V1 due, fl150 K V t key = some ((K, V1), due) ∧ jTo (fl152_79 K' V1 act t z key value due c) (k + 3) := fun {c K' G'} hc hf => by
    obtain ⟨V1, due, a1, a2, a3⟩ := jl150_t hs (by omega) hR hz ht hkey
    refine ⟨V1, due, a1, ?_⟩
    have := jl_fell (V' := V1) hf (by omega) a3 (fun y y0 y1 => by rw [a2 y y0 y1, hf.v, hs.v])
    unfold fl152_79
    rw [if_pos hc]
    exact this
  have late : ∀ {c due : Int} {K' : jc_K} {Gl : jg_G} {Nl : Nat}, c ≠ -4 → jSt K' Gl Nl (k + 1) (W.1, 0, W.2.2) → jLk t key 4 (jg_u (jg_u G 92 0 0) 110 t (-1)) N Gl Nl due → due < 0 → c = due → ∃ V1 due, fl150 K V t key = some ((K, V1), due) ∧ jTo (fl152_79 K' V1 act t z key value due c) (k + 3) := fun {c due K' Gl Nl} hc h1 hlk hd he => by
    obtain ⟨V1, a1, a2, a3⟩ := jl150_s hs (by omega) hR hz ht o hkey hlk
    refine ⟨V1, due, a1, jTo.of (K' := K') (V' := V1) ?_ (by omega) h1 a2 a3⟩
    unfold fl152_79
    rw [if_neg hc, if_neg (by omega), if_pos he]
  have len1 : ∀ {Gl : jg_G} {Nl : Nat} {due : Int} {m : Nat} {G0 : jg_G} {N0 : Nat}, jLk t key m G0 N0 Gl Nl due → (jzL G0 t N0).length < 14 → (jzL Gl t Nl).length < 14 := by
    intro Gl Nl due m
    induction m with
    | zero => intro G0 N0 h; exact h.elim
    | succ m ih =>
      intro G0 N0 h h0
      rcases h with ⟨_, e1, e2, _⟩ | ⟨_, v, _, ⟨_, e1, e2, _⟩ | ⟨_, vb, G1, N1, zV, h⟩⟩
      · rw [e1, e2, jl_a.zL (G := G0) (n := N0) (fun m j e => jg_uN (by omega)) t N0 (Int.le_refl _)]
        exact h0
      · rw [e1, e2, jl_a.zL (G := G0) (n := N0) (fun m j e => jg_uN (by omega)) t N0 (Int.le_refl _)]
        exact h0
      · have l1 : (jzL G1 t N1).length < 14 := by
          by_cases e : t = v
          · rw [e, zV.2.2.2.2.2.2.1]
            decide
          · rw [jz_ot zV.2.2.2.1 ht.1 (zV.2.2.1 t ht.1 ht.2 e), jl_a.zL (G := G0) (n := N0) (fun m j e => jg_uN (by omega)) t N0 (Int.le_refl _)]
            exact h0
        rcases h with ⟨_, e1, e2, _⟩ | ⟨_, h⟩
        · rw [e1, e2]; exact l1
        · refine ih h ?_
          rw [jl_a.zL (G := G1) (n := N1) (fun m j e => jg_uN (by omega)) t N1 (Int.le_refl _)]
          exact l1
  have l0 : (jzL (jg_u (jg_u G 92 0 0) 110 t (-1)) t N).length < 14 := by
    rw [jl_a.zL (G := G) (n := N) (fun m j e => by rw [jg_uN (by omega), jg_uN (by omega)]) t N (Int.le_refl _)]
    exact hl
  -- the rows behind the lock, a change done
  have done : ∀ {c v : Int} {K' : jc_K} {G' Gl : jg_G} {N' Nl : Nat}, c ≠ -4 → jSt K' G' N' (k + 1) (W.1, 0, W.2.2) → jLk t key 4 (jg_u (jg_u G 92 0 0) 110 t (-1)) N Gl Nl 0 → jzc Gl Nl G' N' t key v → v = (if act = 0 then value else -1) → ((act = 0 ∧ c = 0) ∨ (act = 1 ∧ c = jzA Gl key Nl ∧ 0 ≤ c)) → ∃ V1 due, fl150 K V t key = some ((K, V1), due) ∧ jTo (fl152_79 K' V1 act t z key value due c) (k + 3) := fun {c v K' G' Gl N' Nl} hc h1 hlk hzc hv hd => by
    obtain ⟨V1, a1, a2, a3⟩ := jl150_s hs (by omega) hR hz ht o hkey hlk
    have lt := len1 hlk l0
    have o' : G' 107 t = 1 := by
      have q := hzc.2.2.2.1 t
      have e1 := (a2.2 t ht.1 ht.2).1.2.1
      have := h1.t ht
      rcases this.2 with z | z
      · exfalso
        -- t is open still
        have key0 : ∀ (m : Nat) (G0 : jg_G) (N0 : Nat), jLk t key m G0 N0 Gl Nl 0 → G0 107 t = 1 → Gl 107 t = 1 := by
          intro m
          induction m with
          | zero => intro G0 N0 h; exact h.elim
          | succ m ih =>
            intro G0 N0 h h0
            rcases h with ⟨_, e1, e2, _⟩ | ⟨_, v, _, ⟨_, _, _, e⟩ | ⟨_, vb, G1, N1, zV, ⟨_, _, _, e⟩ | ⟨e, h⟩⟩⟩
            · rw [e1, jg_uN (by decide)]; exact h0
            · exact absurd e (by decide)
            · exact absurd e (by decide)
            · refine ih _ _ h ?_
              rw [jg_uN (by decide), zV.1.1 t ht.1 ht.2, if_neg (fun z => e z.symm), jg_uN (by decide)]
              exact h0
        have := key0 4 _ _ hlk (by rw [jg_uN (by decide), jg_uN (by decide)]; exact o)
        rw [← q.1] at this
        omega
      · exact z
    have ol : Gl 107 t = 1 := by rw [← (hzc.2.2.2.1 t).1]; exact o'
    obtain ⟨R2, Z2⟩ := a2.ch a3 ht hkey ol hzc (by omega)
    have g110 : G' 110 t = -1 := by rw [(hzc.2.2.2.1 t).2.1]; exact jLk.m1 4 hlk jg_uH
    have r94 := (a2.2 t ht.1 ht.2).1
    have b12 : 0 ≤ V1 94 (12 + t) ∧ V1 94 (12 + t) ≤ 15 := by rw [r94.2.2.2]; omega
    have b8 : 0 ≤ V1 94 (8 + t) ∧ V1 94 (8 + t) ≤ 2000 := by
      have hN' := h1.2.2.2.2.1.len (by omega) (by decide)
      have e9 := hzc.2.2.2.2.1 t ht.1 ht.2 ol
      have e9' := h1.2.2.2.2.1.2.2.2.2.2.2.2.2.2 t ht.1 ht.2 o'
      have nb := jzn_b G' t N'
      rw [if_pos rfl] at e9
      rw [r94.2.2.1, if_pos ol]
      have : 1 ≤ jzn G' t N' := by
        obtain ⟨r, r1, r2, r3, r4, r5, r6⟩ := hzc.2.1
        by_cases z : 1 ≤ jzn G' t N'
        · exact z
        · exfalso
          have n0 : jzn G' t N' = 0 := by omega
          have q := jzn_b Gl t Nl
          -- 109 of the log behind the lock is not below 0
          have key1 : ∀ (m : Nat) (G0 : jg_G) (N0 : Nat), jLk t key m G0 N0 Gl Nl 0 → G0 107 t = 1 → 0 ≤ G0 109 t → 0 ≤ Gl 109 t := by
            intro m
            induction m with
            | zero => intro G0 N0 h; exact h.elim
            | succ m ih =>
              intro G0 N0 h h7 h0
              rcases h with ⟨_, e1, e2, _⟩ | ⟨_, v, _, ⟨_, _, _, e⟩ | ⟨_, vb, G1, N1, zV, ⟨_, _, _, e⟩ | ⟨e, h⟩⟩⟩
              · rw [e1, jg_uN (by decide)]; exact h0
              · exact absurd e (by decide)
              · exact absurd e (by decide)
              · refine ih _ _ h ?_ ?_
                · rw [jg_uN (by decide), zV.1.1 t ht.1 ht.2, if_neg (fun z => e z.symm), jg_uN (by decide)]
                  exact h7
                · rw [jg_uN (by decide), zV.2.2.2.2.2.2.2.1 t ht.1 ht.2 (fun z => e z.symm) (by rw [jg_uN (by decide)]; exact h7), jg_uN (by decide)]
                  exact h0
          have g9 : 0 ≤ G 109 t := by
            rw [hs.2.2.2.2.1.2.2.2.2.2.2.2.2.2 t ht.1 ht.2 o]
            exact (jzn_b G t N).1
          have := key1 4 _ _ hlk (by rw [jg_uN (by decide), jg_uN (by decide)]; exact o) (by rw [jg_uN (by decide), jg_uN (by decide)]; exact g9)
          omega
      omega
    refine ⟨V1, 0, a1, ?_⟩
    have T := jl176 (V0 := V1) (z := z) (due := 0) (told := c) (act := act) (value := value) h1 (by omega) R2 ht o' hkey (by rw [hv]) b12 b8 g110 Z2 (by
      rcases hd with ⟨e, e2⟩ | ⟨e, e2, _⟩
      · exact Or.inl ⟨e, e2⟩
      · exact Or.inr ⟨e, by rw [e2]; exact (a2.1 key hkey.1 hkey.2).1.symm⟩)
    unfold fl152_79
    rw [if_neg hc, if_pos (Int.le_refl _)]
    rcases hd with ⟨e, e2⟩ | ⟨e, e2, e3⟩
    · rw [if_neg (by omega), if_pos e, if_neg (by omega), if_neg (by omega)]
      exact T.le (by omega)
    · rw [if_neg (by omega), if_neg (by omega), if_pos e, if_pos (by omega), if_pos (by rw [(a2.1 key hkey.1 hkey.2).1, ← e2]; exact e3)]
      exact T.le (by omega)
  have plain : ∀ {c : Int} {K' : jc_K} {G' Gl : jg_G} {N' Nl : Nat}, c ≠ -4 → jSt K' G' N' (k + 1) (W.1, 0, W.2.2) → jLk t key 4 (jg_u (jg_u G 92 0 0) 110 t (-1)) N Gl Nl 0 → jzs Gl Nl G' N' → ((act = 0 ∧ c = -5) ∨ (act = 1 ∧ c = -1 ∧ jzA Gl key Nl = -1) ∨ (act = 2 ∧ c = jzA Gl key Nl)) → ∃ V1 due, fl150 K V t key = some ((K, V1), due) ∧ jTo (fl152_79 K' V1 act t z key value due c) (k + 3) := fun {c K' G' Gl N' Nl} hc h1 hlk hzs hd => by
    obtain ⟨V1, a1, a2, a3⟩ := jl150_s hs (by omega) hR hz ht o hkey hlk
    obtain ⟨R2, Z2⟩ := a2.s a3 hzs (fun s s0 s1 => by
      have := (h1.t ⟨s0, s1⟩).2
      rw [(hzs.2.2.1 s).1] at this
      exact this)
    refine ⟨V1, 0, a1, jTo.of (K' := K') (V' := V1) ?_ (by omega) h1 R2 Z2⟩
    have e92 := (a2.1 key hkey.1 hkey.2).1
    unfold fl152_79
    rw [if_neg hc, if_pos (Int.le_refl _)]
    rcases hd with ⟨e, e2⟩ | ⟨e, e2, e3⟩ | ⟨e, e2⟩
    · rw [if_neg (by omega), if_pos e, if_pos e2]
    · rw [if_neg (by omega), if_neg (by omega), if_pos e, if_pos (by omega), if_neg (by omega), if_pos e2]
    · rw [if_pos e, if_pos (by omega), if_pos (by omega)]
  have run : ∀ {c : Int} {K' : jc_K} {G' : jg_G} {ok : jg_G → Nat → jg_G → Nat → Prop}, jRs K' G' k W c t key G N ok → (∀ {Gl Nl N'}, jSt K' G' N' (k + 1) (W.1, 0, W.2.2) → jLk t key 4 (jg_u (jg_u G 92 0 0) 110 t (-1)) N Gl Nl 0 → c ≠ -4 → ok Gl Nl G' N' → ∃ V1 due, fl150 K V t key = some ((K, V1), due) ∧ jTo (fl152_79 K' V1 act t z key value due c) (k + 3)) → ∃ V1 due, fl150 K V t key = some ((K, V1), due) ∧ jTo (fl152_79 K' V1 act t z key value due c) (k + 3) := fun {c K' G' ok} h hok => by
    rcases h with ⟨h1, h2, _⟩ | ⟨h1, N', due, Gl, Nl, h2, h3, ⟨h4, h5, h6, h7⟩ | ⟨h4, h5⟩⟩
    · exact fell h1 h2
    · rw [h6, h7] at h2
      exact late h1 h2 h3 h4 h5
    · rw [h4] at h3
      exact hok h2 h3 h1 h5
  rcases ha with e | e | e
  · obtain ⟨K', c, G', p1, p2⟩ := jput hs (by omega) ht o hkey bv hN
    obtain ⟨V1, due, a1, T⟩ := run p2 (fun h1 h2 hc h => by
      rcases h with ⟨h3, h4⟩ | ⟨h3, h4⟩
      · exact done hc h1 h2 h4 (by rw [if_pos e]) (Or.inl ⟨e, h3⟩)
      · exact plain hc h1 h2 h4 (Or.inl ⟨e, h3⟩))
    rw [a1, jo_bs, if_pos e]
    dsimp only
    rw [jy_inl p1, jo_bs]
    exact T
  · obtain ⟨K', c, G', p1, p2⟩ := jtake hs (by omega) ht o hkey hN
    obtain ⟨V1, due, a1, T⟩ := run p2 (fun {Gl Nl N'} h1 h2 hc h => by
      obtain ⟨h3, ⟨h4, h5⟩ | ⟨h4, h5⟩⟩ := h
      · exact plain hc h1 h2 h5 (Or.inr (Or.inl ⟨e, h4, h3.symm.trans h4⟩))
      · refine done hc h1 h2 h5 (by rw [if_neg (by omega)]) (Or.inr ⟨e, h3, ?_⟩)
        -- what stands is a value
        have hF := (h1.2.2.2.2.1.1.1.F)
        obtain ⟨r, r1, r2, r3, r4, r5, r6⟩ := h5.2.1
        have hr := h1.2.2.2.2.1.1.1.1 r (by omega) r6
        have : G' 98 r = 0 := by
          have hu := jz_key ht.1 N' hF r (by rw [r2]; exact List.mem_cons_self)
          obtain ⟨⟨q, q1, q2, q3, q4, q5⟩, _⟩ := hu
          rw [q1]; exact q4
        have b := hr.2.2.2.1 this
        rw [r4] at b
        omega)
    rw [a1, jo_bs, if_neg (by omega), if_pos e]
    dsimp only
    rw [jy_inl p1, jo_bs]
    exact T
  · obtain ⟨K', c, G', p1, p2⟩ := jread hs (by omega) ht o hkey
    obtain ⟨V1, due, a1, T⟩ := run p2 (fun h1 h2 hc h => plain hc h1 h2 h.1 (Or.inr (Or.inr ⟨e, h.2⟩)))
    rw [a1, jo_bs, if_neg (by omega), if_neg (by omega)]
    dsimp only
    rw [jy_inl p1, jo_bs]
    exact T
end Cg
