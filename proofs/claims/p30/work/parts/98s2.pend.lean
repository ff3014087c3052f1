/-! THE CRASH THAT IS PENDING: none comes of itself; one that came is spent -/
def jf6 (G H : jg_G) : Prop := (G 92 6 = 0 → H 92 6 = 0 ∧ H 92 7 = G 92 7) ∧ (G 92 7 = 0 → H 92 7 ≠ 0 → H 92 6 = 0) ∧ (G 92 7 ≠ 0 → H 92 7 ≠ 0 ∧ H 92 6 = G 92 6)
def jF6 (G : jg_G) (o : Option (jg_G × Int)) : Prop := ∀ r, o = some r → jf6 G r.1
theorem jf6.refl (G : jg_G) : jf6 G G := ⟨fun h => ⟨h, rfl⟩, fun h h2 => absurd h h2, fun h => ⟨h, rfl⟩⟩
theorem jf6.trans {G H X : jg_G} (h : jf6 G H) (h2 : jf6 H X) : jf6 G X := by
  obtain ⟨a, b, c⟩ := h
  obtain ⟨a2, b2, c2⟩ := h2
  refine ⟨fun z => ?_, fun z y => ?_, fun z => ?_⟩
  · obtain ⟨p, q⟩ := a z
    obtain ⟨p2, q2⟩ := a2 p
    exact ⟨p2, q2.trans q⟩
  · by_cases e : H 92 7 = 0
    · exact b2 e y
    · rw [(c2 e).2]; exact b z e
  · obtain ⟨p, q⟩ := c z
    obtain ⟨p2, q2⟩ := c2 p
    exact ⟨p2, q2.trans q⟩
theorem jf6.e {G H X : jg_G} (h : jf6 G H) (e6 : X 92 6 = H 92 6) (e7 : X 92 7 = H 92 7) : jf6 G X := by
  unfold jf6 at h ⊢
  rw [e6, e7]
  exact h
theorem jf6.u {G H : jg_G} {n : Nat} {i v : Int} (h : jf6 G H) (hn : n ≠ 92 ∨ (i ≠ 6 ∧ i ≠ 7)) : jf6 G (jg_u H n i v) := h.e (if_neg (fun z => by omega)) (if_neg (fun z => by omega))
theorem jf6.copies {G H : jg_G} {a b : Int} (h : jf6 G H) : jf6 G (fr_copies H a b) := h.e (if_neg (fun z => absurd z.1 (by decide))) (if_neg (fun z => absurd z.1 (by decide)))
theorem jf6.empties {G H : jg_G} {a b : Int} (h : jf6 G H) : jf6 G (fr_empties H a b) := h.e (if_neg (fun z => absurd z.1 (by decide))) (if_neg (fun z => absurd z.1 (by decide)))
theorem jf6.puts {G H : jg_G} {a k x y : Int} (h : jf6 G H) : jf6 G (fr_puts H a k x y) := by
  refine h.e ?_ ?_ <;> simp [fr_puts]
theorem jf6.drops {G H : jg_G} {a k : Int} (h : jf6 G H) : jf6 G (fr_drops H a k) := by
  refine h.e ?_ ?_ <;> simp [fr_drops]
theorem jf6.cl {G H : jg_G} {t : Int} (h : jf6 G H) : jf6 G (fr_cl H t) := by
  refine h.e ?_ ?_ <;> simp [fr_cl]
theorem jf6.no {G H : jg_G} {w t : Int} (h : jf6 G H) : jf6 G (fr_no H w t) := by
  refine h.e ?_ ?_ <;> (unfold fr_no fr_nr; split <;> simp [jg_u])
theorem fr_fw_67 (G : jg_G) : fr_fw G 92 6 = 0 ∧ fr_fw G 92 7 = 1 := by
  constructor <;> simp [fr_fw, fr_fa, fr_fi, fr_f0, jg_u]
theorem fr_w_67 (G : jg_G) (k : Int) : fr_w G k 92 6 = (if G 92 6 ≤ 0 then G 92 6 else G 92 6 - k) ∧ fr_w G k 92 7 = G 92 7 := by
  constructor <;> simp [fr_w, jg_u]
theorem jf6.w {G : jg_G} {k : Int} (h7 : G 92 7 = 0) : jf6 G (fr_w G k) := by
  obtain ⟨a, b⟩ := fr_w_67 G k
  refine ⟨fun z => ⟨?_, b⟩, fun _ z => absurd (b.trans h7) z, fun z => absurd h7 z⟩
  rw [a, z]
  rfl
theorem jf6.fw {G H : jg_G} (h7 : G 92 7 = 0) (h6 : G 92 6 ≠ 0) : jf6 G (fr_fw H) := by
  obtain ⟨a, b⟩ := fr_fw_67 H
  exact ⟨fun z => absurd z h6, fun _ _ => a, fun z => absurd h7 z⟩
theorem jf6.iw {G H : jg_G} (h : jf6 G H) : jf6 G (fr_iw H) := by
  refine h.trans ?_
  unfold fr_iw
  by_cases c : H 92 7 = 0
  · rw [if_pos c]
    by_cases d : H 92 6 = 1
    · rw [if_pos d]
      exact jf6.fw c (by omega)
    · rw [if_neg d]
      exact jf6.w c
  · rw [if_neg c]
    exact jf6.refl H
theorem jf6.ha {G H : jg_G} {r : Int} (h : jf6 G H) : jf6 G (fr_ha H r) := by
  refine h.trans ?_
  unfold fr_ha
  by_cases c : H 92 7 = 0 ∧ H 92 13 < r
  · rw [if_pos c]
    by_cases d : 1 ≤ H 92 6 ∧ H 92 6 ≤ r - H 92 13
    · rw [if_pos d]
      exact jf6.fw c.1 (by omega)
    · rw [if_neg d]
      exact (jf6.w c.1).u (Or.inr (by decide))
  · rw [if_neg c]
    exact jf6.refl H
theorem jF6.none (G : jg_G) : jF6 G none := fun r h => by cases h
theorem jF6.some {G H : jg_G} {v : Int} (h : jf6 G H) : jF6 G (some (H, v)) := fun r e => by
  injection e with e
  rw [← e]
  exact h
theorem jF6.ite {P : Prop} [Decidable P] {G : jg_G} {a b : Option (jg_G × Int)} (h1 : jF6 G a) (h2 : jF6 G b) : jF6 G (if P then a else b) := by
  by_cases c : P
  · rw [if_pos c]; exact h1
  · rw [if_neg c]; exact h2
theorem jF6.l {G : jg_G} {v : Int} {f : Int → Option (jg_G × Int)} (h : ∀ x, jF6 G (f x)) : jF6 G (jo_l v f) := h v
theorem jF6.bind {G : jg_G} {o : Option (jg_G × Int)} {f : jg_G × Int → Option (jg_G × Int)} (h : jF6 G o) (h2 : ∀ x : jg_G × Int, jf6 G x.1 → jF6 G (f x)) : jF6 G (o.bind f) := fun r e => by
  obtain ⟨x, e1, e2⟩ := jo_b e
  exact h2 x (h x e1) r e2
theorem jF6.call {G H : jg_G} {o : Option (jg_G × Int)} (h : jf6 G H) (h2 : jF6 H o) : jF6 G o := fun r e => h.trans (h2 r e)
theorem f6_166 (a0 : jg_G) (a1 : Int) (a2 : Int) (a3 : Int) : jF6 a0 (fo166 a0 a1 a2 a3) := by
  unfold fo166
  repeat' first
    | with_reducible exact jF6.none _
    | with_reducible refine jF6.ite ?_ ?_
    | with_reducible refine jF6.l (fun _ => ?_)
    | with_reducible refine jF6.bind ?_ (fun x hx => ?_)
    | with_reducible refine jF6.some ?_
    | with_reducible assumption
    | with_reducible exact jf6.refl _
    | with_reducible refine jf6.u ?_ (by first | exact Or.inl (by decide) | exact Or.inr (by decide))
    | with_reducible refine jf6.copies ?_
    | with_reducible refine jf6.empties ?_
    | with_reducible refine jf6.puts ?_
    | with_reducible refine jf6.drops ?_
    | with_reducible refine jf6.cl ?_
    | with_reducible refine jf6.no ?_
    | with_reducible refine jf6.iw ?_
    | with_reducible refine jf6.ha ?_
theorem f6_167_87 : ∀ (m : Nat) (a1 : jg_G) (a2 : Int) (a3 : Int) (a4 : Int), jF6 a1 (fo167_87 m a1 a2 a3 a4) := by
  intro m
  induction m with
  | zero => intros; unfold fo167_87; exact jF6.none _
  | succ m ih =>
    intro a1 a2 a3 a4
    unfold fo167_87
    repeat' first
      | with_reducible exact jF6.none _
      | with_reducible refine jF6.ite ?_ ?_
      | with_reducible refine jF6.l (fun _ => ?_)
      | with_reducible refine jF6.call ?_ (ih _ _ _ _)
      | with_reducible refine jF6.call ?_ (f6_166 _ _ _ _)
      | with_reducible refine jF6.bind ?_ (fun x hx => ?_)
      | with_reducible refine jF6.some ?_
      | with_reducible assumption
      | with_reducible exact jf6.refl _
      | with_reducible refine jf6.u ?_ (by first | exact Or.inl (by decide) | exact Or.inr (by decide))
      | with_reducible refine jf6.copies ?_
      | with_reducible refine jf6.empties ?_
      | with_reducible refine jf6.puts ?_
      | with_reducible refine jf6.drops ?_
      | with_reducible refine jf6.cl ?_
      | with_reducible refine jf6.no ?_
      | with_reducible refine jf6.iw ?_
      | with_reducible refine jf6.ha ?_
theorem f6_167_42 : ∀ (m : Nat) (a1 : jg_G) (a2 : Int) (a3 : Int) (a4 : Int), jF6 a1 (fo167_42 m a1 a2 a3 a4) := by
  intro m
  induction m with
  | zero => intros; unfold fo167_42; exact jF6.none _
  | succ m ih =>
    intro a1 a2 a3 a4
    unfold fo167_42
    repeat' first
      | with_reducible exact jF6.none _
      | with_reducible refine jF6.ite ?_ ?_
      | with_reducible refine jF6.l (fun _ => ?_)
      | with_reducible refine jF6.call ?_ (ih _ _ _ _)
      | with_reducible refine jF6.call ?_ (f6_167_87 _ _ _ _ _)
      | with_reducible refine jF6.call ?_ (f6_166 _ _ _ _)
      | with_reducible refine jF6.bind ?_ (fun x hx => ?_)
      | with_reducible refine jF6.some ?_
      | with_reducible assumption
      | with_reducible exact jf6.refl _
      | with_reducible refine jf6.u ?_ (by first | exact Or.inl (by decide) | exact Or.inr (by decide))
      | with_reducible refine jf6.copies ?_
      | with_reducible refine jf6.empties ?_
      | with_reducible refine jf6.puts ?_
      | with_reducible refine jf6.drops ?_
      | with_reducible refine jf6.cl ?_
      | with_reducible refine jf6.no ?_
      | with_reducible refine jf6.iw ?_
      | with_reducible refine jf6.ha ?_
theorem f6_167 (a0 : jg_G) (a1 : Int) : jF6 a0 (fo167 a0 a1) := by
  unfold fo167
  repeat' first
    | with_reducible exact jF6.none _
    | with_reducible refine jF6.ite ?_ ?_
    | with_reducible refine jF6.l (fun _ => ?_)
    | with_reducible refine jF6.call ?_ (f6_167_42 _ _ _ _ _)
    | with_reducible refine jF6.bind ?_ (fun x hx => ?_)
    | with_reducible refine jF6.some ?_
    | with_reducible assumption
    | with_reducible exact jf6.refl _
    | with_reducible refine jf6.u ?_ (by first | exact Or.inl (by decide) | exact Or.inr (by decide))
    | with_reducible refine jf6.copies ?_
    | with_reducible refine jf6.empties ?_
    | with_reducible refine jf6.puts ?_
    | with_reducible refine jf6.drops ?_
    | with_reducible refine jf6.cl ?_
    | with_reducible refine jf6.no ?_
    | with_reducible refine jf6.iw ?_
    | with_reducible refine jf6.ha ?_
theorem f6_168_125 (a0 : jg_G) (a1 : Int) (a2 : Int) : jF6 a0 (fo168_125 a0 a1 a2) := by
  unfold fo168_125
  repeat' first
    | with_reducible exact jF6.none _
    | with_reducible refine jF6.ite ?_ ?_
    | with_reducible refine jF6.l (fun _ => ?_)
    | with_reducible refine jF6.bind ?_ (fun x hx => ?_)
    | with_reducible refine jF6.some ?_
    | with_reducible assumption
    | with_reducible exact jf6.refl _
    | with_reducible refine jf6.u ?_ (by first | exact Or.inl (by decide) | exact Or.inr (by decide))
    | with_reducible refine jf6.copies ?_
    | with_reducible refine jf6.empties ?_
    | with_reducible refine jf6.puts ?_
    | with_reducible refine jf6.drops ?_
    | with_reducible refine jf6.cl ?_
    | with_reducible refine jf6.no ?_
    | with_reducible refine jf6.iw ?_
    | with_reducible refine jf6.ha ?_
theorem f6_168_100 (a0 : jg_G) (a1 : Int) (a2 : Int) : jF6 a0 (fo168_100 a0 a1 a2) := by
  unfold fo168_100
  repeat' first
    | with_reducible exact jF6.none _
    | with_reducible refine jF6.ite ?_ ?_
    | with_reducible refine jF6.l (fun _ => ?_)
    | with_reducible refine jF6.call ?_ (f6_168_125 _ _ _)
    | with_reducible refine jF6.bind ?_ (fun x hx => ?_)
    | with_reducible refine jF6.some ?_
    | with_reducible assumption
    | with_reducible exact jf6.refl _
    | with_reducible refine jf6.u ?_ (by first | exact Or.inl (by decide) | exact Or.inr (by decide))
    | with_reducible refine jf6.copies ?_
    | with_reducible refine jf6.empties ?_
    | with_reducible refine jf6.puts ?_
    | with_reducible refine jf6.drops ?_
    | with_reducible refine jf6.cl ?_
    | with_reducible refine jf6.no ?_
    | with_reducible refine jf6.iw ?_
    | with_reducible refine jf6.ha ?_
theorem f6_168_19 : ∀ (m : Nat) (a1 : jg_G) (a2 : Int) (a3 : Int), jF6 a1 (fo168_19 m a1 a2 a3) := by
  intro m
  induction m with
  | zero => intros; unfold fo168_19; exact jF6.none _
  | succ m ih =>
    intro a1 a2 a3
    unfold fo168_19
    repeat' first
      | with_reducible exact jF6.none _
      | with_reducible refine jF6.ite ?_ ?_
      | with_reducible refine jF6.l (fun _ => ?_)
      | with_reducible refine jF6.call ?_ (ih _ _ _)
      | with_reducible refine jF6.call ?_ (f6_168_100 _ _ _)
      | with_reducible refine jF6.call ?_ (f6_167 _ _)
      | with_reducible refine jF6.bind ?_ (fun x hx => ?_)
      | with_reducible refine jF6.some ?_
      | with_reducible assumption
      | with_reducible exact jf6.refl _
      | with_reducible refine jf6.u ?_ (by first | exact Or.inl (by decide) | exact Or.inr (by decide))
      | with_reducible refine jf6.copies ?_
      | with_reducible refine jf6.empties ?_
      | with_reducible refine jf6.puts ?_
      | with_reducible refine jf6.drops ?_
      | with_reducible refine jf6.cl ?_
      | with_reducible refine jf6.no ?_
      | with_reducible refine jf6.iw ?_
      | with_reducible refine jf6.ha ?_
theorem f6_168_14 (a0 : jg_G) (a1 : Int) (a2 : Int) : jF6 a0 (fo168_14 a0 a1 a2) := by
  unfold fo168_14
  repeat' first
    | with_reducible exact jF6.none _
    | with_reducible refine jF6.ite ?_ ?_
    | with_reducible refine jF6.l (fun _ => ?_)
    | with_reducible refine jF6.call ?_ (f6_168_19 _ _ _ _)
    | with_reducible refine jF6.call ?_ (f6_168_125 _ _ _)
    | with_reducible refine jF6.bind ?_ (fun x hx => ?_)
    | with_reducible refine jF6.some ?_
    | with_reducible assumption
    | with_reducible exact jf6.refl _
    | with_reducible refine jf6.u ?_ (by first | exact Or.inl (by decide) | exact Or.inr (by decide))
    | with_reducible refine jf6.copies ?_
    | with_reducible refine jf6.empties ?_
    | with_reducible refine jf6.puts ?_
    | with_reducible refine jf6.drops ?_
    | with_reducible refine jf6.cl ?_
    | with_reducible refine jf6.no ?_
    | with_reducible refine jf6.iw ?_
    | with_reducible refine jf6.ha ?_
theorem f6_168 (a0 : jg_G) (a1 : Int) : jF6 a0 (fo168 a0 a1) := by
  unfold fo168
  repeat' first
    | with_reducible exact jF6.none _
    | with_reducible refine jF6.ite ?_ ?_
    | with_reducible refine jF6.l (fun _ => ?_)
    | with_reducible refine jF6.call ?_ (f6_168_14 _ _ _)
    | with_reducible refine jF6.bind ?_ (fun x hx => ?_)
    | with_reducible refine jF6.some ?_
    | with_reducible assumption
    | with_reducible exact jf6.refl _
    | with_reducible refine jf6.u ?_ (by first | exact Or.inl (by decide) | exact Or.inr (by decide))
    | with_reducible refine jf6.copies ?_
    | with_reducible refine jf6.empties ?_
    | with_reducible refine jf6.puts ?_
    | with_reducible refine jf6.drops ?_
    | with_reducible refine jf6.cl ?_
    | with_reducible refine jf6.no ?_
    | with_reducible refine jf6.iw ?_
    | with_reducible refine jf6.ha ?_
theorem f6_176_2 : ∀ (m : Nat) (a1 : jg_G) (a2 : Int) (a3 : Int), jF6 a1 (fo176_2 m a1 a2 a3) := by
  intro m
  induction m with
  | zero => intros; unfold fo176_2; exact jF6.none _
  | succ m ih =>
    intro a1 a2 a3
    unfold fo176_2
    repeat' first
      | with_reducible exact jF6.none _
      | with_reducible refine jF6.ite ?_ ?_
      | with_reducible refine jF6.l (fun _ => ?_)
      | with_reducible refine jF6.call ?_ (ih _ _ _)
      | with_reducible refine jF6.bind ?_ (fun x hx => ?_)
      | with_reducible refine jF6.some ?_
      | with_reducible assumption
      | with_reducible exact jf6.refl _
      | with_reducible refine jf6.u ?_ (by first | exact Or.inl (by decide) | exact Or.inr (by decide))
      | with_reducible refine jf6.copies ?_
      | with_reducible refine jf6.empties ?_
      | with_reducible refine jf6.puts ?_
      | with_reducible refine jf6.drops ?_
      | with_reducible refine jf6.cl ?_
      | with_reducible refine jf6.no ?_
      | with_reducible refine jf6.iw ?_
      | with_reducible refine jf6.ha ?_
theorem f6_176 (a0 : jg_G) (a1 : Int) : jF6 a0 (fo176 a0 a1) := by
  unfold fo176
  repeat' first
    | with_reducible exact jF6.none _
    | with_reducible refine jF6.ite ?_ ?_
    | with_reducible refine jF6.l (fun _ => ?_)
    | with_reducible refine jF6.call ?_ (f6_176_2 _ _ _ _)
    | with_reducible refine jF6.bind ?_ (fun x hx => ?_)
    | with_reducible refine jF6.some ?_
    | with_reducible assumption
    | with_reducible exact jf6.refl _
    | with_reducible refine jf6.u ?_ (by first | exact Or.inl (by decide) | exact Or.inr (by decide))
    | with_reducible refine jf6.copies ?_
    | with_reducible refine jf6.empties ?_
    | with_reducible refine jf6.puts ?_
    | with_reducible refine jf6.drops ?_
    | with_reducible refine jf6.cl ?_
    | with_reducible refine jf6.no ?_
    | with_reducible refine jf6.iw ?_
    | with_reducible refine jf6.ha ?_
theorem f6_177 (a0 : jg_G) (a1 : Int) : jF6 a0 (fo177 a0 a1) := by
  unfold fo177
  repeat' first
    | with_reducible exact jF6.none _
    | with_reducible refine jF6.ite ?_ ?_
    | with_reducible refine jF6.l (fun _ => ?_)
    | with_reducible refine jF6.bind ?_ (fun x hx => ?_)
    | with_reducible refine jF6.some ?_
    | with_reducible assumption
    | with_reducible exact jf6.refl _
    | with_reducible refine jf6.u ?_ (by first | exact Or.inl (by decide) | exact Or.inr (by decide))
    | with_reducible refine jf6.copies ?_
    | with_reducible refine jf6.empties ?_
    | with_reducible refine jf6.puts ?_
    | with_reducible refine jf6.drops ?_
    | with_reducible refine jf6.cl ?_
    | with_reducible refine jf6.no ?_
    | with_reducible refine jf6.iw ?_
    | with_reducible refine jf6.ha ?_
theorem f6_173_133 (a0 : jg_G) (a1 : Int) (a2 : Int) (a3 : Int) : jF6 a0 (fo173_133 a0 a1 a2 a3) := by
  unfold fo173_133
  repeat' first
    | with_reducible exact jF6.none _
    | with_reducible refine jF6.ite ?_ ?_
    | with_reducible refine jF6.l (fun _ => ?_)
    | with_reducible refine jF6.bind ?_ (fun x hx => ?_)
    | with_reducible refine jF6.some ?_
    | with_reducible assumption
    | with_reducible exact jf6.refl _
    | with_reducible refine jf6.u ?_ (by first | exact Or.inl (by decide) | exact Or.inr (by decide))
    | with_reducible refine jf6.copies ?_
    | with_reducible refine jf6.empties ?_
    | with_reducible refine jf6.puts ?_
    | with_reducible refine jf6.drops ?_
    | with_reducible refine jf6.cl ?_
    | with_reducible refine jf6.no ?_
    | with_reducible refine jf6.iw ?_
    | with_reducible refine jf6.ha ?_
theorem f6_173_47 (a0 : jg_G) (a1 : Int) (a2 : Int) (a3 : Int) (a4 : Int) : jF6 a0 (fo173_47 a0 a1 a2 a3 a4) := by
  unfold fo173_47
  repeat' first
    | with_reducible exact jF6.none _
    | with_reducible refine jF6.ite ?_ ?_
    | with_reducible refine jF6.l (fun _ => ?_)
    | with_reducible refine jF6.call ?_ (f6_173_133 _ _ _ _)
    | with_reducible refine jF6.bind ?_ (fun x hx => ?_)
    | with_reducible refine jF6.some ?_
    | with_reducible assumption
    | with_reducible exact jf6.refl _
    | with_reducible refine jf6.u ?_ (by first | exact Or.inl (by decide) | exact Or.inr (by decide))
    | with_reducible refine jf6.copies ?_
    | with_reducible refine jf6.empties ?_
    | with_reducible refine jf6.puts ?_
    | with_reducible refine jf6.drops ?_
    | with_reducible refine jf6.cl ?_
    | with_reducible refine jf6.no ?_
    | with_reducible refine jf6.iw ?_
    | with_reducible refine jf6.ha ?_
theorem f6_173_15 (a0 : jg_G) (a1 : Int) (a2 : Int) (a3 : Int) : jF6 a0 (fo173_15 a0 a1 a2 a3) := by
  unfold fo173_15
  repeat' first
    | with_reducible exact jF6.none _
    | with_reducible refine jF6.ite ?_ ?_
    | with_reducible refine jF6.l (fun _ => ?_)
    | with_reducible refine jF6.call ?_ (f6_173_47 _ _ _ _ _)
    | with_reducible refine jF6.call ?_ (f6_173_133 _ _ _ _)
    | with_reducible refine jF6.bind ?_ (fun x hx => ?_)
    | with_reducible refine jF6.some ?_
    | with_reducible assumption
    | with_reducible exact jf6.refl _
    | with_reducible refine jf6.u ?_ (by first | exact Or.inl (by decide) | exact Or.inr (by decide))
    | with_reducible refine jf6.copies ?_
    | with_reducible refine jf6.empties ?_
    | with_reducible refine jf6.puts ?_
    | with_reducible refine jf6.drops ?_
    | with_reducible refine jf6.cl ?_
    | with_reducible refine jf6.no ?_
    | with_reducible refine jf6.iw ?_
    | with_reducible refine jf6.ha ?_
theorem f6_173 (a0 : jg_G) (a1 : Int) (a2 : Int) : jF6 a0 (fo173 a0 a1 a2) := by
  unfold fo173
  repeat' first
    | with_reducible exact jF6.none _
    | with_reducible refine jF6.ite ?_ ?_
    | with_reducible refine jF6.l (fun _ => ?_)
    | with_reducible refine jF6.call ?_ (f6_173_15 _ _ _ _)
    | with_reducible refine jF6.bind ?_ (fun x hx => ?_)
    | with_reducible refine jF6.some ?_
    | with_reducible assumption
    | with_reducible exact jf6.refl _
    | with_reducible refine jf6.u ?_ (by first | exact Or.inl (by decide) | exact Or.inr (by decide))
    | with_reducible refine jf6.copies ?_
    | with_reducible refine jf6.empties ?_
    | with_reducible refine jf6.puts ?_
    | with_reducible refine jf6.drops ?_
    | with_reducible refine jf6.cl ?_
    | with_reducible refine jf6.no ?_
    | with_reducible refine jf6.iw ?_
    | with_reducible refine jf6.ha ?_
theorem f6_174_2 : ∀ (m : Nat) (a1 : jg_G) (a2 : Int) (a3 : Int), jF6 a1 (fo174_2 m a1 a2 a3) := by
  intro m
  induction m with
  | zero => intros; unfold fo174_2; exact jF6.none _
  | succ m ih =>
    intro a1 a2 a3
    unfold fo174_2
    repeat' first
      | with_reducible exact jF6.none _
      | with_reducible refine jF6.ite ?_ ?_
      | with_reducible refine jF6.l (fun _ => ?_)
      | with_reducible refine jF6.call ?_ (ih _ _ _)
      | with_reducible refine jF6.call ?_ (f6_168 _ _)
      | with_reducible refine jF6.call ?_ (f6_173 _ _ _)
      | with_reducible refine jF6.bind ?_ (fun x hx => ?_)
      | with_reducible refine jF6.some ?_
      | with_reducible assumption
      | with_reducible exact jf6.refl _
      | with_reducible refine jf6.u ?_ (by first | exact Or.inl (by decide) | exact Or.inr (by decide))
      | with_reducible refine jf6.copies ?_
      | with_reducible refine jf6.empties ?_
      | with_reducible refine jf6.puts ?_
      | with_reducible refine jf6.drops ?_
      | with_reducible refine jf6.cl ?_
      | with_reducible refine jf6.no ?_
      | with_reducible refine jf6.iw ?_
      | with_reducible refine jf6.ha ?_
theorem f6_174 (a0 : jg_G) (a1 : Int) : jF6 a0 (fo174 a0 a1) := by
  unfold fo174
  repeat' first
    | with_reducible exact jF6.none _
    | with_reducible refine jF6.ite ?_ ?_
    | with_reducible refine jF6.l (fun _ => ?_)
    | with_reducible refine jF6.call ?_ (f6_174_2 _ _ _ _)
    | with_reducible refine jF6.bind ?_ (fun x hx => ?_)
    | with_reducible refine jF6.some ?_
    | with_reducible assumption
    | with_reducible exact jf6.refl _
    | with_reducible refine jf6.u ?_ (by first | exact Or.inl (by decide) | exact Or.inr (by decide))
    | with_reducible refine jf6.copies ?_
    | with_reducible refine jf6.empties ?_
    | with_reducible refine jf6.puts ?_
    | with_reducible refine jf6.drops ?_
    | with_reducible refine jf6.cl ?_
    | with_reducible refine jf6.no ?_
    | with_reducible refine jf6.iw ?_
    | with_reducible refine jf6.ha ?_
theorem f6_155_13 : ∀ (m : Nat) (a1 : jg_G) (a2 : Int) (a3 : Int) (a4 : Int) (a5 : Int) (a6 : Int), jF6 a1 (fo155_13 m a1 a2 a3 a4 a5 a6) := by
  intro m
  induction m with
  | zero => intros; unfold fo155_13; exact jF6.none _
  | succ m ih =>
    intro a1 a2 a3 a4 a5 a6
    unfold fo155_13
    repeat' first
      | with_reducible exact jF6.none _
      | with_reducible refine jF6.ite ?_ ?_
      | with_reducible refine jF6.l (fun _ => ?_)
      | with_reducible refine jF6.call ?_ (ih _ _ _ _ _ _)
      | with_reducible refine jF6.bind ?_ (fun x hx => ?_)
      | with_reducible refine jF6.some ?_
      | with_reducible assumption
      | with_reducible exact jf6.refl _
      | with_reducible refine jf6.u ?_ (by first | exact Or.inl (by decide) | exact Or.inr (by decide))
      | with_reducible refine jf6.copies ?_
      | with_reducible refine jf6.empties ?_
      | with_reducible refine jf6.puts ?_
      | with_reducible refine jf6.drops ?_
      | with_reducible refine jf6.cl ?_
      | with_reducible refine jf6.no ?_
      | with_reducible refine jf6.iw ?_
      | with_reducible refine jf6.ha ?_
theorem f6_155 (a0 : jg_G) (a1 : Int) (a2 : Int) (a3 : Int) (a4 : Int) : jF6 a0 (fo155 a0 a1 a2 a3 a4) := by
  unfold fo155
  repeat' first
    | with_reducible exact jF6.none _
    | with_reducible refine jF6.ite ?_ ?_
    | with_reducible refine jF6.l (fun _ => ?_)
    | with_reducible refine jF6.call ?_ (f6_155_13 _ _ _ _ _ _ _)
    | with_reducible refine jF6.bind ?_ (fun x hx => ?_)
    | with_reducible refine jF6.some ?_
    | with_reducible assumption
    | with_reducible exact jf6.refl _
    | with_reducible refine jf6.u ?_ (by first | exact Or.inl (by decide) | exact Or.inr (by decide))
    | with_reducible refine jf6.copies ?_
    | with_reducible refine jf6.empties ?_
    | with_reducible refine jf6.puts ?_
    | with_reducible refine jf6.drops ?_
    | with_reducible refine jf6.cl ?_
    | with_reducible refine jf6.no ?_
    | with_reducible refine jf6.iw ?_
    | with_reducible refine jf6.ha ?_
theorem f6_171_160 : ∀ (m : Nat) (a1 : jg_G) (a2 : Int) (a3 : Int) (a4 : Int) (a5 : Int) (a6 : Int) (a7 : Int) (a8 : Int) (a9 : Int), jF6 a1 (fo171_160 m a1 a2 a3 a4 a5 a6 a7 a8 a9) := by
  intro m
  induction m with
  | zero => intros; unfold fo171_160; exact jF6.none _
  | succ m ih =>
    intro a1 a2 a3 a4 a5 a6 a7 a8 a9
    unfold fo171_160
    repeat' first
      | with_reducible exact jF6.none _
      | with_reducible refine jF6.ite ?_ ?_
      | with_reducible refine jF6.l (fun _ => ?_)
      | with_reducible refine jF6.call ?_ (ih _ _ _ _ _ _ _ _ _)
      | with_reducible refine jF6.bind ?_ (fun x hx => ?_)
      | with_reducible refine jF6.some ?_
      | with_reducible assumption
      | with_reducible exact jf6.refl _
      | with_reducible refine jf6.u ?_ (by first | exact Or.inl (by decide) | exact Or.inr (by decide))
      | with_reducible refine jf6.copies ?_
      | with_reducible refine jf6.empties ?_
      | with_reducible refine jf6.puts ?_
      | with_reducible refine jf6.drops ?_
      | with_reducible refine jf6.cl ?_
      | with_reducible refine jf6.no ?_
      | with_reducible refine jf6.iw ?_
      | with_reducible refine jf6.ha ?_
theorem f6_171 (a0 : jg_G) (a1 : Int) (a2 : Int) (a3 : Int) (a4 : Int) : jF6 a0 (fo171 a0 a1 a2 a3 a4) := by
  unfold fo171
  repeat' first
    | with_reducible exact jF6.none _
    | with_reducible refine jF6.ite ?_ ?_
    | with_reducible refine jF6.l (fun _ => ?_)
    | with_reducible refine jF6.call ?_ (f6_171_160 _ _ _ _ _ _ _ _ _ _)
    | with_reducible refine jF6.bind ?_ (fun x hx => ?_)
    | with_reducible refine jF6.some ?_
    | with_reducible assumption
    | with_reducible exact jf6.refl _
    | with_reducible refine jf6.u ?_ (by first | exact Or.inl (by decide) | exact Or.inr (by decide))
    | with_reducible refine jf6.copies ?_
    | with_reducible refine jf6.empties ?_
    | with_reducible refine jf6.puts ?_
    | with_reducible refine jf6.drops ?_
    | with_reducible refine jf6.cl ?_
    | with_reducible refine jf6.no ?_
    | with_reducible refine jf6.iw ?_
    | with_reducible refine jf6.ha ?_
theorem f6_175_9 : ∀ (m : Nat) (a1 : jg_G) (a2 : Int) (a3 : Int) (a4 : Int), jF6 a1 (fo175_9 m a1 a2 a3 a4) := by
  intro m
  induction m with
  | zero => intros; unfold fo175_9; exact jF6.none _
  | succ m ih =>
    intro a1 a2 a3 a4
    unfold fo175_9
    repeat' first
      | with_reducible exact jF6.none _
      | with_reducible refine jF6.ite ?_ ?_
      | with_reducible refine jF6.l (fun _ => ?_)
      | with_reducible refine jF6.call ?_ (ih _ _ _ _)
      | with_reducible refine jF6.call ?_ (f6_168 _ _)
      | with_reducible refine jF6.bind ?_ (fun x hx => ?_)
      | with_reducible refine jF6.some ?_
      | with_reducible assumption
      | with_reducible exact jf6.refl _
      | with_reducible refine jf6.u ?_ (by first | exact Or.inl (by decide) | exact Or.inr (by decide))
      | with_reducible refine jf6.copies ?_
      | with_reducible refine jf6.empties ?_
      | with_reducible refine jf6.puts ?_
      | with_reducible refine jf6.drops ?_
      | with_reducible refine jf6.cl ?_
      | with_reducible refine jf6.no ?_
      | with_reducible refine jf6.iw ?_
      | with_reducible refine jf6.ha ?_
theorem f6_175 (a0 : jg_G) (a1 : Int) : jF6 a0 (fo175 a0 a1) := by
  unfold fo175
  repeat' first
    | with_reducible exact jF6.none _
    | with_reducible refine jF6.ite ?_ ?_
    | with_reducible refine jF6.l (fun _ => ?_)
    | with_reducible refine jF6.call ?_ (f6_175_9 _ _ _ _ _)
    | with_reducible refine jF6.bind ?_ (fun x hx => ?_)
    | with_reducible refine jF6.some ?_
    | with_reducible assumption
    | with_reducible exact jf6.refl _
    | with_reducible refine jf6.u ?_ (by first | exact Or.inl (by decide) | exact Or.inr (by decide))
    | with_reducible refine jf6.copies ?_
    | with_reducible refine jf6.empties ?_
    | with_reducible refine jf6.puts ?_
    | with_reducible refine jf6.drops ?_
    | with_reducible refine jf6.cl ?_
    | with_reducible refine jf6.no ?_
    | with_reducible refine jf6.iw ?_
    | with_reducible refine jf6.ha ?_
theorem f6_178 (a0 : jg_G) : jF6 a0 (fo178 a0) := by
  unfold fo178
  repeat' first
    | with_reducible exact jF6.none _
    | with_reducible refine jF6.ite ?_ ?_
    | with_reducible refine jF6.l (fun _ => ?_)
    | with_reducible refine jF6.call ?_ (f6_176 _ _)
    | with_reducible refine jF6.call ?_ (f6_171 _ _ _ _ _)
    | with_reducible refine jF6.call ?_ (f6_155 _ _ _ _ _)
    | with_reducible refine jF6.call ?_ (f6_174 _ _)
    | with_reducible refine jF6.bind ?_ (fun x hx => ?_)
    | with_reducible refine jF6.some ?_
    | with_reducible assumption
    | with_reducible exact jf6.refl _
    | with_reducible refine jf6.u ?_ (by first | exact Or.inl (by decide) | exact Or.inr (by decide))
    | with_reducible refine jf6.copies ?_
    | with_reducible refine jf6.empties ?_
    | with_reducible refine jf6.puts ?_
    | with_reducible refine jf6.drops ?_
    | with_reducible refine jf6.cl ?_
    | with_reducible refine jf6.no ?_
    | with_reducible refine jf6.iw ?_
    | with_reducible refine jf6.ha ?_
theorem f6_180 (a0 : jg_G) (a1 : Int) (a2 : Int) : jF6 a0 (fo180 a0 a1 a2) := by
  unfold fo180
  repeat' first
    | with_reducible exact jF6.none _
    | with_reducible refine jF6.ite ?_ ?_
    | with_reducible refine jF6.l (fun _ => ?_)
    | with_reducible refine jF6.call ?_ (f6_176 _ _)
    | with_reducible refine jF6.call ?_ (f6_171 _ _ _ _ _)
    | with_reducible refine jF6.call ?_ (f6_155 _ _ _ _ _)
    | with_reducible refine jF6.call ?_ (f6_174 _ _)
    | with_reducible refine jF6.bind ?_ (fun x hx => ?_)
    | with_reducible refine jF6.some ?_
    | with_reducible assumption
    | with_reducible exact jf6.refl _
    | with_reducible refine jf6.u ?_ (by first | exact Or.inl (by decide) | exact Or.inr (by decide))
    | with_reducible refine jf6.copies ?_
    | with_reducible refine jf6.empties ?_
    | with_reducible refine jf6.puts ?_
    | with_reducible refine jf6.drops ?_
    | with_reducible refine jf6.cl ?_
    | with_reducible refine jf6.no ?_
    | with_reducible refine jf6.iw ?_
    | with_reducible refine jf6.ha ?_
theorem f6_181 (a0 : jg_G) (a1 : Int) (a2 : Int) : jF6 a0 (fo181 a0 a1 a2) := by
  unfold fo181
  repeat' first
    | with_reducible exact jF6.none _
    | with_reducible refine jF6.ite ?_ ?_
    | with_reducible refine jF6.l (fun _ => ?_)
    | with_reducible refine jF6.call ?_ (f6_171 _ _ _ _ _)
    | with_reducible refine jF6.call ?_ (f6_174 _ _)
    | with_reducible refine jF6.bind ?_ (fun x hx => ?_)
    | with_reducible refine jF6.some ?_
    | with_reducible assumption
    | with_reducible exact jf6.refl _
    | with_reducible refine jf6.u ?_ (by first | exact Or.inl (by decide) | exact Or.inr (by decide))
    | with_reducible refine jf6.copies ?_
    | with_reducible refine jf6.empties ?_
    | with_reducible refine jf6.puts ?_
    | with_reducible refine jf6.drops ?_
    | with_reducible refine jf6.cl ?_
    | with_reducible refine jf6.no ?_
    | with_reducible refine jf6.iw ?_
    | with_reducible refine jf6.ha ?_
theorem f6_182_5 : ∀ (m : Nat) (a1 : jg_G), jF6 a1 (fo182_5 m a1) := by
  intro m
  induction m with
  | zero => intros; unfold fo182_5; exact jF6.none _
  | succ m ih =>
    intro a1
    unfold fo182_5
    repeat' first
      | with_reducible exact jF6.none _
      | with_reducible refine jF6.ite ?_ ?_
      | with_reducible refine jF6.l (fun _ => ?_)
      | with_reducible refine jF6.call ?_ (ih _)
      | with_reducible refine jF6.call ?_ (f6_168 _ _)
      | with_reducible refine jF6.call ?_ (f6_171 _ _ _ _ _)
      | with_reducible refine jF6.call ?_ (f6_174 _ _)
      | with_reducible refine jF6.bind ?_ (fun x hx => ?_)
      | with_reducible refine jF6.some ?_
      | with_reducible assumption
      | with_reducible exact jf6.refl _
      | with_reducible refine jf6.u ?_ (by first | exact Or.inl (by decide) | exact Or.inr (by decide))
      | with_reducible refine jf6.copies ?_
      | with_reducible refine jf6.empties ?_
      | with_reducible refine jf6.puts ?_
      | with_reducible refine jf6.drops ?_
      | with_reducible refine jf6.cl ?_
      | with_reducible refine jf6.no ?_
      | with_reducible refine jf6.iw ?_
      | with_reducible refine jf6.ha ?_
theorem f6_182 (a0 : jg_G) : jF6 a0 (fo182 a0) := by
  unfold fo182
  repeat' first
    | with_reducible exact jF6.none _
    | with_reducible refine jF6.ite ?_ ?_
    | with_reducible refine jF6.l (fun _ => ?_)
    | with_reducible refine jF6.call ?_ (f6_168 _ _)
    | with_reducible refine jF6.call ?_ (f6_182_5 _ _)
    | with_reducible refine jF6.bind ?_ (fun x hx => ?_)
    | with_reducible refine jF6.some ?_
    | with_reducible assumption
    | with_reducible exact jf6.refl _
    | with_reducible refine jf6.u ?_ (by first | exact Or.inl (by decide) | exact Or.inr (by decide))
    | with_reducible refine jf6.copies ?_
    | with_reducible refine jf6.empties ?_
    | with_reducible refine jf6.puts ?_
    | with_reducible refine jf6.drops ?_
    | with_reducible refine jf6.cl ?_
    | with_reducible refine jf6.no ?_
    | with_reducible refine jf6.iw ?_
    | with_reducible refine jf6.ha ?_
theorem f6_183_7 : ∀ (m : Nat) (a1 : jg_G) (a2 : Int), jF6 a1 (fo183_7 m a1 a2) := by
  intro m
  induction m with
  | zero => intros; unfold fo183_7; exact jF6.none _
  | succ m ih =>
    intro a1 a2
    unfold fo183_7
    repeat' first
      | with_reducible exact jF6.none _
      | with_reducible refine jF6.ite ?_ ?_
      | with_reducible refine jF6.l (fun _ => ?_)
      | with_reducible refine jF6.call ?_ (ih _ _)
      | with_reducible refine jF6.call ?_ (f6_181 _ _ _)
      | with_reducible refine jF6.call ?_ (f6_182 _)
      | with_reducible refine jF6.bind ?_ (fun x hx => ?_)
      | with_reducible refine jF6.some ?_
      | with_reducible assumption
      | with_reducible exact jf6.refl _
      | with_reducible refine jf6.u ?_ (by first | exact Or.inl (by decide) | exact Or.inr (by decide))
      | with_reducible refine jf6.copies ?_
      | with_reducible refine jf6.empties ?_
      | with_reducible refine jf6.puts ?_
      | with_reducible refine jf6.drops ?_
      | with_reducible refine jf6.cl ?_
      | with_reducible refine jf6.no ?_
      | with_reducible refine jf6.iw ?_
      | with_reducible refine jf6.ha ?_
theorem f6_183 (a0 : jg_G) : jF6 a0 (fo183 a0) := by
  unfold fo183
  repeat' first
    | with_reducible exact jF6.none _
    | with_reducible refine jF6.ite ?_ ?_
    | with_reducible refine jF6.l (fun _ => ?_)
    | with_reducible refine jF6.call ?_ (f6_183_7 _ _ _)
    | with_reducible refine jF6.bind ?_ (fun x hx => ?_)
    | with_reducible refine jF6.some ?_
    | with_reducible assumption
    | with_reducible exact jf6.refl _
    | with_reducible refine jf6.u ?_ (by first | exact Or.inl (by decide) | exact Or.inr (by decide))
    | with_reducible refine jf6.copies ?_
    | with_reducible refine jf6.empties ?_
    | with_reducible refine jf6.puts ?_
    | with_reducible refine jf6.drops ?_
    | with_reducible refine jf6.cl ?_
    | with_reducible refine jf6.no ?_
    | with_reducible refine jf6.iw ?_
    | with_reducible refine jf6.ha ?_
theorem f6_186 (a0 : jg_G) (a1 : Int) (a2 : Int) : jF6 a0 (fo186 a0 a1 a2) := by
  unfold fo186
  repeat' first
    | with_reducible exact jF6.none _
    | with_reducible refine jF6.ite ?_ ?_
    | with_reducible refine jF6.l (fun _ => ?_)
    | with_reducible refine jF6.call ?_ (f6_175 _ _)
    | with_reducible refine jF6.call ?_ (f6_174 _ _)
    | with_reducible refine jF6.call ?_ (f6_183 _)
    | with_reducible refine jF6.bind ?_ (fun x hx => ?_)
    | with_reducible refine jF6.some ?_
    | with_reducible assumption
    | with_reducible exact jf6.refl _
    | with_reducible refine jf6.u ?_ (by first | exact Or.inl (by decide) | exact Or.inr (by decide))
    | with_reducible refine jf6.copies ?_
    | with_reducible refine jf6.empties ?_
    | with_reducible refine jf6.puts ?_
    | with_reducible refine jf6.drops ?_
    | with_reducible refine jf6.cl ?_
    | with_reducible refine jf6.no ?_
    | with_reducible refine jf6.iw ?_
    | with_reducible refine jf6.ha ?_
theorem f6_187_10 : ∀ (m : Nat) (a1 : jg_G) (a2 : Int) (a3 : Int) (a4 : Int) (a5 : Int), jF6 a1 (fo187_10 m a1 a2 a3 a4 a5) := by
  intro m
  induction m with
  | zero => intros; unfold fo187_10; exact jF6.none _
  | succ m ih =>
    intro a1 a2 a3 a4 a5
    unfold fo187_10
    repeat' first
      | with_reducible exact jF6.none _
      | with_reducible refine jF6.ite ?_ ?_
      | with_reducible refine jF6.l (fun _ => ?_)
      | with_reducible refine jF6.call ?_ (ih _ _ _ _ _)
      | with_reducible refine jF6.call ?_ (f6_186 _ _ _)
      | with_reducible refine jF6.bind ?_ (fun x hx => ?_)
      | with_reducible refine jF6.some ?_
      | with_reducible assumption
      | with_reducible exact jf6.refl _
      | with_reducible refine jf6.u ?_ (by first | exact Or.inl (by decide) | exact Or.inr (by decide))
      | with_reducible refine jf6.copies ?_
      | with_reducible refine jf6.empties ?_
      | with_reducible refine jf6.puts ?_
      | with_reducible refine jf6.drops ?_
      | with_reducible refine jf6.cl ?_
      | with_reducible refine jf6.no ?_
      | with_reducible refine jf6.iw ?_
      | with_reducible refine jf6.ha ?_
theorem f6_187 (a0 : jg_G) (a1 : Int) (a2 : Int) : jF6 a0 (fo187 a0 a1 a2) := by
  unfold fo187
  repeat' first
    | with_reducible exact jF6.none _
    | with_reducible refine jF6.ite ?_ ?_
    | with_reducible refine jF6.l (fun _ => ?_)
    | with_reducible refine jF6.call ?_ (f6_187_10 _ _ _ _ _ _)
    | with_reducible refine jF6.bind ?_ (fun x hx => ?_)
    | with_reducible refine jF6.some ?_
    | with_reducible assumption
    | with_reducible exact jf6.refl _
    | with_reducible refine jf6.u ?_ (by first | exact Or.inl (by decide) | exact Or.inr (by decide))
    | with_reducible refine jf6.copies ?_
    | with_reducible refine jf6.empties ?_
    | with_reducible refine jf6.puts ?_
    | with_reducible refine jf6.drops ?_
    | with_reducible refine jf6.cl ?_
    | with_reducible refine jf6.no ?_
    | with_reducible refine jf6.iw ?_
    | with_reducible refine jf6.ha ?_
theorem f6_188 (a0 : jg_G) (a1 : Int) : jF6 a0 (fo188 a0 a1) := by
  unfold fo188
  repeat' first
    | with_reducible exact jF6.none _
    | with_reducible refine jF6.ite ?_ ?_
    | with_reducible refine jF6.l (fun _ => ?_)
    | with_reducible refine jF6.call ?_ (f6_187 _ _ _)
    | with_reducible refine jF6.bind ?_ (fun x hx => ?_)
    | with_reducible refine jF6.some ?_
    | with_reducible assumption
    | with_reducible exact jf6.refl _
    | with_reducible refine jf6.u ?_ (by first | exact Or.inl (by decide) | exact Or.inr (by decide))
    | with_reducible refine jf6.copies ?_
    | with_reducible refine jf6.empties ?_
    | with_reducible refine jf6.puts ?_
    | with_reducible refine jf6.drops ?_
    | with_reducible refine jf6.cl ?_
    | with_reducible refine jf6.no ?_
    | with_reducible refine jf6.iw ?_
    | with_reducible refine jf6.ha ?_
theorem f6_189_9 : ∀ (m : Nat) (a1 : jg_G) (a2 : Int) (a3 : Int) (a4 : Int), jF6 a1 (fo189_9 m a1 a2 a3 a4) := by
  intro m
  induction m with
  | zero => intros; unfold fo189_9; exact jF6.none _
  | succ m ih =>
    intro a1 a2 a3 a4
    unfold fo189_9
    repeat' first
      | with_reducible exact jF6.none _
      | with_reducible refine jF6.ite ?_ ?_
      | with_reducible refine jF6.l (fun _ => ?_)
      | with_reducible refine jF6.call ?_ (ih _ _ _ _)
      | with_reducible refine jF6.bind ?_ (fun x hx => ?_)
      | with_reducible refine jF6.some ?_
      | with_reducible assumption
      | with_reducible exact jf6.refl _
      | with_reducible refine jf6.u ?_ (by first | exact Or.inl (by decide) | exact Or.inr (by decide))
      | with_reducible refine jf6.copies ?_
      | with_reducible refine jf6.empties ?_
      | with_reducible refine jf6.puts ?_
      | with_reducible refine jf6.drops ?_
      | with_reducible refine jf6.cl ?_
      | with_reducible refine jf6.no ?_
      | with_reducible refine jf6.iw ?_
      | with_reducible refine jf6.ha ?_
theorem f6_189 (a0 : jg_G) (a1 : Int) : jF6 a0 (fo189 a0 a1) := by
  unfold fo189
  repeat' first
    | with_reducible exact jF6.none _
    | with_reducible refine jF6.ite ?_ ?_
    | with_reducible refine jF6.l (fun _ => ?_)
    | with_reducible refine jF6.call ?_ (f6_189_9 _ _ _ _ _)
    | with_reducible refine jF6.bind ?_ (fun x hx => ?_)
    | with_reducible refine jF6.some ?_
    | with_reducible assumption
    | with_reducible exact jf6.refl _
    | with_reducible refine jf6.u ?_ (by first | exact Or.inl (by decide) | exact Or.inr (by decide))
    | with_reducible refine jf6.copies ?_
    | with_reducible refine jf6.empties ?_
    | with_reducible refine jf6.puts ?_
    | with_reducible refine jf6.drops ?_
    | with_reducible refine jf6.cl ?_
    | with_reducible refine jf6.no ?_
    | with_reducible refine jf6.iw ?_
    | with_reducible refine jf6.ha ?_
theorem f6_190_7 : ∀ (m : Nat) (a1 : jg_G) (a2 : Int) (a3 : Int), jF6 a1 (fo190_7 m a1 a2 a3) := by
  intro m
  induction m with
  | zero => intros; unfold fo190_7; exact jF6.none _
  | succ m ih =>
    intro a1 a2 a3
    unfold fo190_7
    repeat' first
      | with_reducible exact jF6.none _
      | with_reducible refine jF6.ite ?_ ?_
      | with_reducible refine jF6.l (fun _ => ?_)
      | with_reducible refine jF6.call ?_ (ih _ _ _)
      | with_reducible refine jF6.call ?_ (f6_189 _ _)
      | with_reducible refine jF6.call ?_ (f6_188 _ _)
      | with_reducible refine jF6.bind ?_ (fun x hx => ?_)
      | with_reducible refine jF6.some ?_
      | with_reducible assumption
      | with_reducible exact jf6.refl _
      | with_reducible refine jf6.u ?_ (by first | exact Or.inl (by decide) | exact Or.inr (by decide))
      | with_reducible refine jf6.copies ?_
      | with_reducible refine jf6.empties ?_
      | with_reducible refine jf6.puts ?_
      | with_reducible refine jf6.drops ?_
      | with_reducible refine jf6.cl ?_
      | with_reducible refine jf6.no ?_
      | with_reducible refine jf6.iw ?_
      | with_reducible refine jf6.ha ?_
theorem f6_190 (a0 : jg_G) (a1 : Int) (a2 : Int) : jF6 a0 (fo190 a0 a1 a2) := by
  unfold fo190
  repeat' first
    | with_reducible exact jF6.none _
    | with_reducible refine jF6.ite ?_ ?_
    | with_reducible refine jF6.l (fun _ => ?_)
    | with_reducible refine jF6.call ?_ (f6_190_7 _ _ _ _)
    | with_reducible refine jF6.bind ?_ (fun x hx => ?_)
    | with_reducible refine jF6.some ?_
    | with_reducible assumption
    | with_reducible exact jf6.refl _
    | with_reducible refine jf6.u ?_ (by first | exact Or.inl (by decide) | exact Or.inr (by decide))
    | with_reducible refine jf6.copies ?_
    | with_reducible refine jf6.empties ?_
    | with_reducible refine jf6.puts ?_
    | with_reducible refine jf6.drops ?_
    | with_reducible refine jf6.cl ?_
    | with_reducible refine jf6.no ?_
    | with_reducible refine jf6.iw ?_
    | with_reducible refine jf6.ha ?_
theorem f6_192 (a0 : jg_G) (a1 : Int) (a2 : Int) (a3 : Int) : jF6 a0 (fo192 a0 a1 a2 a3) := by
  unfold fo192
  repeat' first
    | with_reducible exact jF6.none _
    | with_reducible refine jF6.ite ?_ ?_
    | with_reducible refine jF6.l (fun _ => ?_)
    | with_reducible refine jF6.call ?_ (f6_174 _ _)
    | with_reducible refine jF6.bind ?_ (fun x hx => ?_)
    | with_reducible refine jF6.some ?_
    | with_reducible assumption
    | with_reducible exact jf6.refl _
    | with_reducible refine jf6.u ?_ (by first | exact Or.inl (by decide) | exact Or.inr (by decide))
    | with_reducible refine jf6.copies ?_
    | with_reducible refine jf6.empties ?_
    | with_reducible refine jf6.puts ?_
    | with_reducible refine jf6.drops ?_
    | with_reducible refine jf6.cl ?_
    | with_reducible refine jf6.no ?_
    | with_reducible refine jf6.iw ?_
    | with_reducible refine jf6.ha ?_
theorem f6_191 (a0 : jg_G) (a1 : Int) : jF6 a0 (fo191 a0 a1) := by
  unfold fo191
  repeat' first
    | with_reducible exact jF6.none _
    | with_reducible refine jF6.ite ?_ ?_
    | with_reducible refine jF6.l (fun _ => ?_)
    | with_reducible refine jF6.bind ?_ (fun x hx => ?_)
    | with_reducible refine jF6.some ?_
    | with_reducible assumption
    | with_reducible exact jf6.refl _
    | with_reducible refine jf6.u ?_ (by first | exact Or.inl (by decide) | exact Or.inr (by decide))
    | with_reducible refine jf6.copies ?_
    | with_reducible refine jf6.empties ?_
    | with_reducible refine jf6.puts ?_
    | with_reducible refine jf6.drops ?_
    | with_reducible refine jf6.cl ?_
    | with_reducible refine jf6.no ?_
    | with_reducible refine jf6.iw ?_
    | with_reducible refine jf6.ha ?_
theorem f6_193_s : ∀ (m : Nat) (a1 : Nat) (a2 : jg_G) (a3 : Int) (a4 : Int) (a5 : Int) (a6 : Int) (a7 : Int), jF6 a2 (fo193_s m a1 a2 a3 a4 a5 a6 a7) := by
  intro m
  induction m with
  | zero => intros; unfold fo193_s; exact jF6.none _
  | succ m ih =>
    intro a1 a2 a3 a4 a5 a6 a7
    unfold fo193_s
    repeat' first
      | with_reducible exact jF6.none _
      | with_reducible refine jF6.ite ?_ ?_
      | with_reducible refine jF6.l (fun _ => ?_)
      | with_reducible refine jF6.call ?_ (ih _ _ _ _ _ _ _)
      | with_reducible refine jF6.call ?_ (f6_192 _ _ _ _)
      | with_reducible refine jF6.call ?_ (f6_177 _ _)
      | with_reducible refine jF6.call ?_ (f6_176 _ _)
      | with_reducible refine jF6.call ?_ (f6_178 _)
      | with_reducible refine jF6.call ?_ (f6_175 _ _)
      | with_reducible refine jF6.call ?_ (f6_180 _ _ _)
      | with_reducible refine jF6.bind ?_ (fun x hx => ?_)
      | with_reducible refine jF6.some ?_
      | with_reducible assumption
      | with_reducible exact jf6.refl _
      | with_reducible refine jf6.u ?_ (by first | exact Or.inl (by decide) | exact Or.inr (by decide))
      | with_reducible refine jf6.copies ?_
      | with_reducible refine jf6.empties ?_
      | with_reducible refine jf6.puts ?_
      | with_reducible refine jf6.drops ?_
      | with_reducible refine jf6.cl ?_
      | with_reducible refine jf6.no ?_
      | with_reducible refine jf6.iw ?_
      | with_reducible refine jf6.ha ?_
theorem f6_193 (a0 : jg_G) (a1 : Int) (a2 : Int) (a3 : Int) : jF6 a0 (fo193 a0 a1 a2 a3) := by
  unfold fo193
  repeat' first
    | with_reducible exact jF6.none _
    | with_reducible refine jF6.ite ?_ ?_
    | with_reducible refine jF6.l (fun _ => ?_)
    | with_reducible refine jF6.call ?_ (f6_190 _ _ _)
    | with_reducible refine jF6.call ?_ (f6_175 _ _)
    | with_reducible refine jF6.call ?_ (f6_193_s _ _ _ _ _ _ _ _)
    | with_reducible refine jF6.bind ?_ (fun x hx => ?_)
    | with_reducible refine jF6.some ?_
    | with_reducible assumption
    | with_reducible exact jf6.refl _
    | with_reducible refine jf6.u ?_ (by first | exact Or.inl (by decide) | exact Or.inr (by decide))
    | with_reducible refine jf6.copies ?_
    | with_reducible refine jf6.empties ?_
    | with_reducible refine jf6.puts ?_
    | with_reducible refine jf6.drops ?_
    | with_reducible refine jf6.cl ?_
    | with_reducible refine jf6.no ?_
    | with_reducible refine jf6.iw ?_
    | with_reducible refine jf6.ha ?_
theorem f6_194 (a0 : jg_G) (a1 : Int) (a2 : Int) : jF6 a0 (fo194 a0 a1 a2) := by
  unfold fo194
  repeat' first
    | with_reducible exact jF6.none _
    | with_reducible refine jF6.ite ?_ ?_
    | with_reducible refine jF6.l (fun _ => ?_)
    | with_reducible refine jF6.call ?_ (f6_190 _ _ _)
    | with_reducible refine jF6.call ?_ (f6_175 _ _)
    | with_reducible refine jF6.call ?_ (f6_192 _ _ _ _)
    | with_reducible refine jF6.call ?_ (f6_183 _)
    | with_reducible refine jF6.bind ?_ (fun x hx => ?_)
    | with_reducible refine jF6.some ?_
    | with_reducible assumption
    | with_reducible exact jf6.refl _
    | with_reducible refine jf6.u ?_ (by first | exact Or.inl (by decide) | exact Or.inr (by decide))
    | with_reducible refine jf6.copies ?_
    | with_reducible refine jf6.empties ?_
    | with_reducible refine jf6.puts ?_
    | with_reducible refine jf6.drops ?_
    | with_reducible refine jf6.cl ?_
    | with_reducible refine jf6.no ?_
    | with_reducible refine jf6.iw ?_
    | with_reducible refine jf6.ha ?_
theorem f6_195 (a0 : jg_G) (a1 : Int) (a2 : Int) : jF6 a0 (fo195 a0 a1 a2) := by
  unfold fo195
  repeat' first
    | with_reducible exact jF6.none _
    | with_reducible refine jF6.ite ?_ ?_
    | with_reducible refine jF6.l (fun _ => ?_)
    | with_reducible refine jF6.call ?_ (f6_190 _ _ _)
    | with_reducible refine jF6.call ?_ (f6_175 _ _)
    | with_reducible refine jF6.bind ?_ (fun x hx => ?_)
    | with_reducible refine jF6.some ?_
    | with_reducible assumption
    | with_reducible exact jf6.refl _
    | with_reducible refine jf6.u ?_ (by first | exact Or.inl (by decide) | exact Or.inr (by decide))
    | with_reducible refine jf6.copies ?_
    | with_reducible refine jf6.empties ?_
    | with_reducible refine jf6.puts ?_
    | with_reducible refine jf6.drops ?_
    | with_reducible refine jf6.cl ?_
    | with_reducible refine jf6.no ?_
    | with_reducible refine jf6.iw ?_
    | with_reducible refine jf6.ha ?_
theorem f6_196 (a0 : jg_G) (a1 : Int) : jF6 a0 (fo196 a0 a1) := by
  unfold fo196
  repeat' first
    | with_reducible exact jF6.none _
    | with_reducible refine jF6.ite ?_ ?_
    | with_reducible refine jF6.l (fun _ => ?_)
    | with_reducible refine jF6.bind ?_ (fun x hx => ?_)
    | with_reducible refine jF6.some ?_
    | with_reducible assumption
    | with_reducible exact jf6.refl _
    | with_reducible refine jf6.u ?_ (by first | exact Or.inl (by decide) | exact Or.inr (by decide))
    | with_reducible refine jf6.copies ?_
    | with_reducible refine jf6.empties ?_
    | with_reducible refine jf6.puts ?_
    | with_reducible refine jf6.drops ?_
    | with_reducible refine jf6.cl ?_
    | with_reducible refine jf6.no ?_
    | with_reducible refine jf6.iw ?_
    | with_reducible refine jf6.ha ?_
theorem f6_197 (a0 : jg_G) (a1 : Int) (a2 : Int) : jF6 a0 (fo197 a0 a1 a2) := by
  unfold fo197
  repeat' first
    | with_reducible exact jF6.none _
    | with_reducible refine jF6.ite ?_ ?_
    | with_reducible refine jF6.l (fun _ => ?_)
    | with_reducible refine jF6.call ?_ (f6_187 _ _ _)
    | with_reducible refine jF6.bind ?_ (fun x hx => ?_)
    | with_reducible refine jF6.some ?_
    | with_reducible assumption
    | with_reducible exact jf6.refl _
    | with_reducible refine jf6.u ?_ (by first | exact Or.inl (by decide) | exact Or.inr (by decide))
    | with_reducible refine jf6.copies ?_
    | with_reducible refine jf6.empties ?_
    | with_reducible refine jf6.puts ?_
    | with_reducible refine jf6.drops ?_
    | with_reducible refine jf6.cl ?_
    | with_reducible refine jf6.no ?_
    | with_reducible refine jf6.iw ?_
    | with_reducible refine jf6.ha ?_
theorem f6_198 (a0 : jg_G) (a1 : Int) : jF6 a0 (fo198 a0 a1) := by
  unfold fo198
  repeat' first
    | with_reducible exact jF6.none _
    | with_reducible refine jF6.ite ?_ ?_
    | with_reducible refine jF6.l (fun _ => ?_)
    | with_reducible refine jF6.bind ?_ (fun x hx => ?_)
    | with_reducible refine jF6.some ?_
    | with_reducible assumption
    | with_reducible exact jf6.refl _
    | with_reducible refine jf6.u ?_ (by first | exact Or.inl (by decide) | exact Or.inr (by decide))
    | with_reducible refine jf6.copies ?_
    | with_reducible refine jf6.empties ?_
    | with_reducible refine jf6.puts ?_
    | with_reducible refine jf6.drops ?_
    | with_reducible refine jf6.cl ?_
    | with_reducible refine jf6.no ?_
    | with_reducible refine jf6.iw ?_
    | with_reducible refine jf6.ha ?_
theorem f6_199 (a0 : jg_G) (a1 : Int) : jF6 a0 (fo199 a0 a1) := by
  unfold fo199
  repeat' first
    | with_reducible exact jF6.none _
    | with_reducible refine jF6.ite ?_ ?_
    | with_reducible refine jF6.l (fun _ => ?_)
    | with_reducible refine jF6.call ?_ (f6_188 _ _)
    | with_reducible refine jF6.bind ?_ (fun x hx => ?_)
    | with_reducible refine jF6.some ?_
    | with_reducible assumption
    | with_reducible exact jf6.refl _
    | with_reducible refine jf6.u ?_ (by first | exact Or.inl (by decide) | exact Or.inr (by decide))
    | with_reducible refine jf6.copies ?_
    | with_reducible refine jf6.empties ?_
    | with_reducible refine jf6.puts ?_
    | with_reducible refine jf6.drops ?_
    | with_reducible refine jf6.cl ?_
    | with_reducible refine jf6.no ?_
    | with_reducible refine jf6.iw ?_
    | with_reducible refine jf6.ha ?_
theorem f6_200_80 : ∀ (m : Nat) (a1 : jg_G) (a2 : Int) (a3 : Int) (a4 : Int), jF6 a1 (fo200_80 m a1 a2 a3 a4) := by
  intro m
  induction m with
  | zero => intros; unfold fo200_80; exact jF6.none _
  | succ m ih =>
    intro a1 a2 a3 a4
    unfold fo200_80
    repeat' first
      | with_reducible exact jF6.none _
      | with_reducible refine jF6.ite ?_ ?_
      | with_reducible refine jF6.l (fun _ => ?_)
      | with_reducible refine jF6.call ?_ (ih _ _ _ _)
      | with_reducible refine jF6.bind ?_ (fun x hx => ?_)
      | with_reducible refine jF6.some ?_
      | with_reducible assumption
      | with_reducible exact jf6.refl _
      | with_reducible refine jf6.u ?_ (by first | exact Or.inl (by decide) | exact Or.inr (by decide))
      | with_reducible refine jf6.copies ?_
      | with_reducible refine jf6.empties ?_
      | with_reducible refine jf6.puts ?_
      | with_reducible refine jf6.drops ?_
      | with_reducible refine jf6.cl ?_
      | with_reducible refine jf6.no ?_
      | with_reducible refine jf6.iw ?_
      | with_reducible refine jf6.ha ?_
theorem f6_200_53 : ∀ (m : Nat) (a1 : jg_G) (a2 : Int) (a3 : Int) (a4 : Int), jF6 a1 (fo200_53 m a1 a2 a3 a4) := by
  intro m
  induction m with
  | zero => intros; unfold fo200_53; exact jF6.none _
  | succ m ih =>
    intro a1 a2 a3 a4
    unfold fo200_53
    repeat' first
      | with_reducible exact jF6.none _
      | with_reducible refine jF6.ite ?_ ?_
      | with_reducible refine jF6.l (fun _ => ?_)
      | with_reducible refine jF6.call ?_ (ih _ _ _ _)
      | with_reducible refine jF6.call ?_ (f6_200_80 _ _ _ _ _)
      | with_reducible refine jF6.bind ?_ (fun x hx => ?_)
      | with_reducible refine jF6.some ?_
      | with_reducible assumption
      | with_reducible exact jf6.refl _
      | with_reducible refine jf6.u ?_ (by first | exact Or.inl (by decide) | exact Or.inr (by decide))
      | with_reducible refine jf6.copies ?_
      | with_reducible refine jf6.empties ?_
      | with_reducible refine jf6.puts ?_
      | with_reducible refine jf6.drops ?_
      | with_reducible refine jf6.cl ?_
      | with_reducible refine jf6.no ?_
      | with_reducible refine jf6.iw ?_
      | with_reducible refine jf6.ha ?_
theorem f6_200 (a0 : jg_G) : jF6 a0 (fo200 a0) := by
  unfold fo200
  repeat' first
    | with_reducible exact jF6.none _
    | with_reducible refine jF6.ite ?_ ?_
    | with_reducible refine jF6.l (fun _ => ?_)
    | with_reducible refine jF6.call ?_ (f6_200_53 _ _ _ _ _)
    | with_reducible refine jF6.bind ?_ (fun x hx => ?_)
    | with_reducible refine jF6.some ?_
    | with_reducible assumption
    | with_reducible exact jf6.refl _
    | with_reducible refine jf6.u ?_ (by first | exact Or.inl (by decide) | exact Or.inr (by decide))
    | with_reducible refine jf6.copies ?_
    | with_reducible refine jf6.empties ?_
    | with_reducible refine jf6.puts ?_
    | with_reducible refine jf6.drops ?_
    | with_reducible refine jf6.cl ?_
    | with_reducible refine jf6.no ?_
    | with_reducible refine jf6.iw ?_
    | with_reducible refine jf6.ha ?_
theorem f6_201 (a0 : jg_G) (a1 : Int) : jF6 a0 (fo201 a0 a1) := by
  unfold fo201
  repeat' first
    | with_reducible exact jF6.none _
    | with_reducible refine jF6.ite ?_ ?_
    | with_reducible refine jF6.l (fun _ => ?_)
    | with_reducible refine jF6.call ?_ (f6_167 _ _)
    | with_reducible refine jF6.bind ?_ (fun x hx => ?_)
    | with_reducible refine jF6.some ?_
    | with_reducible assumption
    | with_reducible exact jf6.refl _
    | with_reducible refine jf6.u ?_ (by first | exact Or.inl (by decide) | exact Or.inr (by decide))
    | with_reducible refine jf6.copies ?_
    | with_reducible refine jf6.empties ?_
    | with_reducible refine jf6.puts ?_
    | with_reducible refine jf6.drops ?_
    | with_reducible refine jf6.cl ?_
    | with_reducible refine jf6.no ?_
    | with_reducible refine jf6.iw ?_
    | with_reducible refine jf6.ha ?_
theorem f6_204_56 : ∀ (m : Nat) (a1 : jg_G) (a2 : Int) (a3 : Int), jF6 a1 (fo204_56 m a1 a2 a3) := by
  intro m
  induction m with
  | zero => intros; unfold fo204_56; exact jF6.none _
  | succ m ih =>
    intro a1 a2 a3
    unfold fo204_56
    repeat' first
      | with_reducible exact jF6.none _
      | with_reducible refine jF6.ite ?_ ?_
      | with_reducible refine jF6.l (fun _ => ?_)
      | with_reducible refine jF6.call ?_ (ih _ _ _)
      | with_reducible refine jF6.call ?_ (f6_166 _ _ _ _)
      | with_reducible refine jF6.bind ?_ (fun x hx => ?_)
      | with_reducible refine jF6.some ?_
      | with_reducible assumption
      | with_reducible exact jf6.refl _
      | with_reducible refine jf6.u ?_ (by first | exact Or.inl (by decide) | exact Or.inr (by decide))
      | with_reducible refine jf6.copies ?_
      | with_reducible refine jf6.empties ?_
      | with_reducible refine jf6.puts ?_
      | with_reducible refine jf6.drops ?_
      | with_reducible refine jf6.cl ?_
      | with_reducible refine jf6.no ?_
      | with_reducible refine jf6.iw ?_
      | with_reducible refine jf6.ha ?_
theorem f6_204 (a0 : jg_G) : jF6 a0 (fo204 a0) := by
  unfold fo204
  repeat' first
    | with_reducible exact jF6.none _
    | with_reducible refine jF6.ite ?_ ?_
    | with_reducible refine jF6.l (fun _ => ?_)
    | with_reducible refine jF6.call ?_ (f6_204_56 _ _ _ _)
    | with_reducible refine jF6.bind ?_ (fun x hx => ?_)
    | with_reducible refine jF6.some ?_
    | with_reducible assumption
    | with_reducible exact jf6.refl _
    | with_reducible refine jf6.u ?_ (by first | exact Or.inl (by decide) | exact Or.inr (by decide))
    | with_reducible refine jf6.copies ?_
    | with_reducible refine jf6.empties ?_
    | with_reducible refine jf6.puts ?_
    | with_reducible refine jf6.drops ?_
    | with_reducible refine jf6.cl ?_
    | with_reducible refine jf6.no ?_
    | with_reducible refine jf6.iw ?_
    | with_reducible refine jf6.ha ?_
theorem f6_205_s : ∀ (m : Nat) (a1 : Nat) (a2 : jg_G) (a3 : Int) (a4 : Int) (a5 : Int) (a6 : Int), jF6 a2 (fo205_s m a1 a2 a3 a4 a5 a6) := by
  intro m
  induction m with
  | zero => intros; unfold fo205_s; exact jF6.none _
  | succ m ih =>
    intro a1 a2 a3 a4 a5 a6
    unfold fo205_s
    repeat' first
      | with_reducible exact jF6.none _
      | with_reducible refine jF6.ite ?_ ?_
      | with_reducible refine jF6.l (fun _ => ?_)
      | with_reducible refine jF6.call ?_ (ih _ _ _ _ _ _)
      | with_reducible refine jF6.bind ?_ (fun x hx => ?_)
      | with_reducible refine jF6.some ?_
      | with_reducible assumption
      | with_reducible exact jf6.refl _
      | with_reducible refine jf6.u ?_ (by first | exact Or.inl (by decide) | exact Or.inr (by decide))
      | with_reducible refine jf6.copies ?_
      | with_reducible refine jf6.empties ?_
      | with_reducible refine jf6.puts ?_
      | with_reducible refine jf6.drops ?_
      | with_reducible refine jf6.cl ?_
      | with_reducible refine jf6.no ?_
      | with_reducible refine jf6.iw ?_
      | with_reducible refine jf6.ha ?_
theorem f6_205_88 : ∀ (m : Nat) (a1 : jg_G) (a2 : Int) (a3 : Int) (a4 : Int), jF6 a1 (fo205_88 m a1 a2 a3 a4) := by
  intro m
  induction m with
  | zero => intros; unfold fo205_88; exact jF6.none _
  | succ m ih =>
    intro a1 a2 a3 a4
    unfold fo205_88
    repeat' first
      | with_reducible exact jF6.none _
      | with_reducible refine jF6.ite ?_ ?_
      | with_reducible refine jF6.l (fun _ => ?_)
      | with_reducible refine jF6.call ?_ (ih _ _ _ _)
      | with_reducible refine jF6.call ?_ (f6_205_s _ _ _ _ _ _ _)
      | with_reducible refine jF6.bind ?_ (fun x hx => ?_)
      | with_reducible refine jF6.some ?_
      | with_reducible assumption
      | with_reducible exact jf6.refl _
      | with_reducible refine jf6.u ?_ (by first | exact Or.inl (by decide) | exact Or.inr (by decide))
      | with_reducible refine jf6.copies ?_
      | with_reducible refine jf6.empties ?_
      | with_reducible refine jf6.puts ?_
      | with_reducible refine jf6.drops ?_
      | with_reducible refine jf6.cl ?_
      | with_reducible refine jf6.no ?_
      | with_reducible refine jf6.iw ?_
      | with_reducible refine jf6.ha ?_
theorem f6_205_53 : ∀ (m : Nat) (a1 : jg_G) (a2 : Int) (a3 : Int) (a4 : Int), jF6 a1 (fo205_53 m a1 a2 a3 a4) := by
  intro m
  induction m with
  | zero => intros; unfold fo205_53; exact jF6.none _
  | succ m ih =>
    intro a1 a2 a3 a4
    unfold fo205_53
    repeat' first
      | with_reducible exact jF6.none _
      | with_reducible refine jF6.ite ?_ ?_
      | with_reducible refine jF6.l (fun _ => ?_)
      | with_reducible refine jF6.call ?_ (ih _ _ _ _)
      | with_reducible refine jF6.call ?_ (f6_205_88 _ _ _ _ _)
      | with_reducible refine jF6.bind ?_ (fun x hx => ?_)
      | with_reducible refine jF6.some ?_
      | with_reducible assumption
      | with_reducible exact jf6.refl _
      | with_reducible refine jf6.u ?_ (by first | exact Or.inl (by decide) | exact Or.inr (by decide))
      | with_reducible refine jf6.copies ?_
      | with_reducible refine jf6.empties ?_
      | with_reducible refine jf6.puts ?_
      | with_reducible refine jf6.drops ?_
      | with_reducible refine jf6.cl ?_
      | with_reducible refine jf6.no ?_
      | with_reducible refine jf6.iw ?_
      | with_reducible refine jf6.ha ?_
theorem f6_205_4 : ∀ (m : Nat) (a1 : jg_G) (a2 : Int) (a3 : Int), jF6 a1 (fo205_4 m a1 a2 a3) := by
  intro m
  induction m with
  | zero => intros; unfold fo205_4; exact jF6.none _
  | succ m ih =>
    intro a1 a2 a3
    unfold fo205_4
    repeat' first
      | with_reducible exact jF6.none _
      | with_reducible refine jF6.ite ?_ ?_
      | with_reducible refine jF6.l (fun _ => ?_)
      | with_reducible refine jF6.call ?_ (ih _ _ _)
      | with_reducible refine jF6.call ?_ (f6_205_53 _ _ _ _ _)
      | with_reducible refine jF6.bind ?_ (fun x hx => ?_)
      | with_reducible refine jF6.some ?_
      | with_reducible assumption
      | with_reducible exact jf6.refl _
      | with_reducible refine jf6.u ?_ (by first | exact Or.inl (by decide) | exact Or.inr (by decide))
      | with_reducible refine jf6.copies ?_
      | with_reducible refine jf6.empties ?_
      | with_reducible refine jf6.puts ?_
      | with_reducible refine jf6.drops ?_
      | with_reducible refine jf6.cl ?_
      | with_reducible refine jf6.no ?_
      | with_reducible refine jf6.iw ?_
      | with_reducible refine jf6.ha ?_
theorem f6_205 (a0 : jg_G) : jF6 a0 (fo205 a0) := by
  unfold fo205
  repeat' first
    | with_reducible exact jF6.none _
    | with_reducible refine jF6.ite ?_ ?_
    | with_reducible refine jF6.l (fun _ => ?_)
    | with_reducible refine jF6.call ?_ (f6_205_4 _ _ _ _)
    | with_reducible refine jF6.bind ?_ (fun x hx => ?_)
    | with_reducible refine jF6.some ?_
    | with_reducible assumption
    | with_reducible exact jf6.refl _
    | with_reducible refine jf6.u ?_ (by first | exact Or.inl (by decide) | exact Or.inr (by decide))
    | with_reducible refine jf6.copies ?_
    | with_reducible refine jf6.empties ?_
    | with_reducible refine jf6.puts ?_
    | with_reducible refine jf6.drops ?_
    | with_reducible refine jf6.cl ?_
    | with_reducible refine jf6.no ?_
    | with_reducible refine jf6.iw ?_
    | with_reducible refine jf6.ha ?_
theorem f6_206_s : ∀ (m : Nat) (a1 : Nat) (a2 : jg_G) (a3 : Int) (a4 : Int) (a5 : Int), jF6 a2 (fo206_s m a1 a2 a3 a4 a5) := by
  intro m
  induction m with
  | zero => intros; unfold fo206_s; exact jF6.none _
  | succ m ih =>
    intro a1 a2 a3 a4 a5
    unfold fo206_s
    repeat' first
      | with_reducible exact jF6.none _
      | with_reducible refine jF6.ite ?_ ?_
      | with_reducible refine jF6.l (fun _ => ?_)
      | with_reducible refine jF6.call ?_ (ih _ _ _ _ _)
      | with_reducible refine jF6.call ?_ (f6_168 _ _)
      | with_reducible refine jF6.call ?_ (f6_173 _ _ _)
      | with_reducible refine jF6.bind ?_ (fun x hx => ?_)
      | with_reducible refine jF6.some ?_
      | with_reducible assumption
      | with_reducible exact jf6.refl _
      | with_reducible refine jf6.u ?_ (by first | exact Or.inl (by decide) | exact Or.inr (by decide))
      | with_reducible refine jf6.copies ?_
      | with_reducible refine jf6.empties ?_
      | with_reducible refine jf6.puts ?_
      | with_reducible refine jf6.drops ?_
      | with_reducible refine jf6.cl ?_
      | with_reducible refine jf6.no ?_
      | with_reducible refine jf6.iw ?_
      | with_reducible refine jf6.ha ?_
theorem f6_206_9 : ∀ (m : Nat) (a1 : jg_G) (a2 : Int) (a3 : Int), jF6 a1 (fo206_9 m a1 a2 a3) := by
  intro m
  induction m with
  | zero => intros; unfold fo206_9; exact jF6.none _
  | succ m ih =>
    intro a1 a2 a3
    unfold fo206_9
    repeat' first
      | with_reducible exact jF6.none _
      | with_reducible refine jF6.ite ?_ ?_
      | with_reducible refine jF6.l (fun _ => ?_)
      | with_reducible refine jF6.call ?_ (ih _ _ _)
      | with_reducible refine jF6.call ?_ (f6_206_s _ _ _ _ _ _)
      | with_reducible refine jF6.bind ?_ (fun x hx => ?_)
      | with_reducible refine jF6.some ?_
      | with_reducible assumption
      | with_reducible exact jf6.refl _
      | with_reducible refine jf6.u ?_ (by first | exact Or.inl (by decide) | exact Or.inr (by decide))
      | with_reducible refine jf6.copies ?_
      | with_reducible refine jf6.empties ?_
      | with_reducible refine jf6.puts ?_
      | with_reducible refine jf6.drops ?_
      | with_reducible refine jf6.cl ?_
      | with_reducible refine jf6.no ?_
      | with_reducible refine jf6.iw ?_
      | with_reducible refine jf6.ha ?_
theorem f6_206 (a0 : jg_G) : jF6 a0 (fo206 a0) := by
  unfold fo206
  repeat' first
    | with_reducible exact jF6.none _
    | with_reducible refine jF6.ite ?_ ?_
    | with_reducible refine jF6.l (fun _ => ?_)
    | with_reducible refine jF6.call ?_ (f6_206_9 _ _ _ _)
    | with_reducible refine jF6.bind ?_ (fun x hx => ?_)
    | with_reducible refine jF6.some ?_
    | with_reducible assumption
    | with_reducible exact jf6.refl _
    | with_reducible refine jf6.u ?_ (by first | exact Or.inl (by decide) | exact Or.inr (by decide))
    | with_reducible refine jf6.copies ?_
    | with_reducible refine jf6.empties ?_
    | with_reducible refine jf6.puts ?_
    | with_reducible refine jf6.drops ?_
    | with_reducible refine jf6.cl ?_
    | with_reducible refine jf6.no ?_
    | with_reducible refine jf6.iw ?_
    | with_reducible refine jf6.ha ?_
theorem f6_207_s : ∀ (m : Nat) (a1 : Nat) (a2 : jg_G) (a3 : Int) (a4 : Int) (a5 : Int) (a6 : Int) (a7 : Int), jF6 a2 (fo207_s m a1 a2 a3 a4 a5 a6 a7) := by
  intro m
  induction m with
  | zero => intros; unfold fo207_s; exact jF6.none _
  | succ m ih =>
    intro a1 a2 a3 a4 a5 a6 a7
    unfold fo207_s
    repeat' first
      | with_reducible exact jF6.none _
      | with_reducible refine jF6.ite ?_ ?_
      | with_reducible refine jF6.l (fun _ => ?_)
      | with_reducible refine jF6.call ?_ (ih _ _ _ _ _ _ _)
      | with_reducible refine jF6.bind ?_ (fun x hx => ?_)
      | with_reducible refine jF6.some ?_
      | with_reducible assumption
      | with_reducible exact jf6.refl _
      | with_reducible refine jf6.u ?_ (by first | exact Or.inl (by decide) | exact Or.inr (by decide))
      | with_reducible refine jf6.copies ?_
      | with_reducible refine jf6.empties ?_
      | with_reducible refine jf6.puts ?_
      | with_reducible refine jf6.drops ?_
      | with_reducible refine jf6.cl ?_
      | with_reducible refine jf6.no ?_
      | with_reducible refine jf6.iw ?_
      | with_reducible refine jf6.ha ?_
theorem f6_207 (a0 : jg_G) (a1 : Int) : jF6 a0 (fo207 a0 a1) := by
  unfold fo207
  repeat' first
    | with_reducible exact jF6.none _
    | with_reducible refine jF6.ite ?_ ?_
    | with_reducible refine jF6.l (fun _ => ?_)
    | with_reducible refine jF6.call ?_ (f6_207_s _ _ _ _ _ _ _ _)
    | with_reducible refine jF6.bind ?_ (fun x hx => ?_)
    | with_reducible refine jF6.some ?_
    | with_reducible assumption
    | with_reducible exact jf6.refl _
    | with_reducible refine jf6.u ?_ (by first | exact Or.inl (by decide) | exact Or.inr (by decide))
    | with_reducible refine jf6.copies ?_
    | with_reducible refine jf6.empties ?_
    | with_reducible refine jf6.puts ?_
    | with_reducible refine jf6.drops ?_
    | with_reducible refine jf6.cl ?_
    | with_reducible refine jf6.no ?_
    | with_reducible refine jf6.iw ?_
    | with_reducible refine jf6.ha ?_
theorem f6_208_5 : ∀ (m : Nat) (a1 : jg_G) (a2 : Int) (a3 : Int), jF6 a1 (fo208_5 m a1 a2 a3) := by
  intro m
  induction m with
  | zero => intros; unfold fo208_5; exact jF6.none _
  | succ m ih =>
    intro a1 a2 a3
    unfold fo208_5
    repeat' first
      | with_reducible exact jF6.none _
      | with_reducible refine jF6.ite ?_ ?_
      | with_reducible refine jF6.l (fun _ => ?_)
      | with_reducible refine jF6.call ?_ (ih _ _ _)
      | with_reducible refine jF6.call ?_ (f6_207 _ _)
      | with_reducible refine jF6.bind ?_ (fun x hx => ?_)
      | with_reducible refine jF6.some ?_
      | with_reducible assumption
      | with_reducible exact jf6.refl _
      | with_reducible refine jf6.u ?_ (by first | exact Or.inl (by decide) | exact Or.inr (by decide))
      | with_reducible refine jf6.copies ?_
      | with_reducible refine jf6.empties ?_
      | with_reducible refine jf6.puts ?_
      | with_reducible refine jf6.drops ?_
      | with_reducible refine jf6.cl ?_
      | with_reducible refine jf6.no ?_
      | with_reducible refine jf6.iw ?_
      | with_reducible refine jf6.ha ?_
theorem f6_208 (a0 : jg_G) : jF6 a0 (fo208 a0) := by
  unfold fo208
  repeat' first
    | with_reducible exact jF6.none _
    | with_reducible refine jF6.ite ?_ ?_
    | with_reducible refine jF6.l (fun _ => ?_)
    | with_reducible refine jF6.call ?_ (f6_208_5 _ _ _ _)
    | with_reducible refine jF6.bind ?_ (fun x hx => ?_)
    | with_reducible refine jF6.some ?_
    | with_reducible assumption
    | with_reducible exact jf6.refl _
    | with_reducible refine jf6.u ?_ (by first | exact Or.inl (by decide) | exact Or.inr (by decide))
    | with_reducible refine jf6.copies ?_
    | with_reducible refine jf6.empties ?_
    | with_reducible refine jf6.puts ?_
    | with_reducible refine jf6.drops ?_
    | with_reducible refine jf6.cl ?_
    | with_reducible refine jf6.no ?_
    | with_reducible refine jf6.iw ?_
    | with_reducible refine jf6.ha ?_
theorem f6_209 (a0 : jg_G) : jF6 a0 (fo209 a0) := by
  unfold fo209
  repeat' first
    | with_reducible exact jF6.none _
    | with_reducible refine jF6.ite ?_ ?_
    | with_reducible refine jF6.l (fun _ => ?_)
    | with_reducible refine jF6.bind ?_ (fun x hx => ?_)
    | with_reducible refine jF6.some ?_
    | with_reducible assumption
    | with_reducible exact jf6.refl _
    | with_reducible refine jf6.u ?_ (by first | exact Or.inl (by decide) | exact Or.inr (by decide))
    | with_reducible refine jf6.copies ?_
    | with_reducible refine jf6.empties ?_
    | with_reducible refine jf6.puts ?_
    | with_reducible refine jf6.drops ?_
    | with_reducible refine jf6.cl ?_
    | with_reducible refine jf6.no ?_
    | with_reducible refine jf6.iw ?_
    | with_reducible refine jf6.ha ?_
theorem f6_210_5 : ∀ (m : Nat) (a1 : jg_G) (a2 : Int), jF6 a1 (fo210_5 m a1 a2) := by
  intro m
  induction m with
  | zero => intros; unfold fo210_5; exact jF6.none _
  | succ m ih =>
    intro a1 a2
    unfold fo210_5
    repeat' first
      | with_reducible exact jF6.none _
      | with_reducible refine jF6.ite ?_ ?_
      | with_reducible refine jF6.l (fun _ => ?_)
      | with_reducible refine jF6.call ?_ (ih _ _)
      | with_reducible refine jF6.call ?_ (f6_209 _)
      | with_reducible refine jF6.call ?_ (f6_207 _ _)
      | with_reducible refine jF6.call ?_ (f6_181 _ _ _)
      | with_reducible refine jF6.call ?_ (f6_182 _)
      | with_reducible refine jF6.call ?_ (f6_208 _)
      | with_reducible refine jF6.bind ?_ (fun x hx => ?_)
      | with_reducible refine jF6.some ?_
      | with_reducible assumption
      | with_reducible exact jf6.refl _
      | with_reducible refine jf6.u ?_ (by first | exact Or.inl (by decide) | exact Or.inr (by decide))
      | with_reducible refine jf6.copies ?_
      | with_reducible refine jf6.empties ?_
      | with_reducible refine jf6.puts ?_
      | with_reducible refine jf6.drops ?_
      | with_reducible refine jf6.cl ?_
      | with_reducible refine jf6.no ?_
      | with_reducible refine jf6.iw ?_
      | with_reducible refine jf6.ha ?_
theorem f6_210 (a0 : jg_G) : jF6 a0 (fo210 a0) := by
  unfold fo210
  repeat' first
    | with_reducible exact jF6.none _
    | with_reducible refine jF6.ite ?_ ?_
    | with_reducible refine jF6.l (fun _ => ?_)
    | with_reducible refine jF6.call ?_ (f6_208 _)
    | with_reducible refine jF6.call ?_ (f6_210_5 _ _ _)
    | with_reducible refine jF6.bind ?_ (fun x hx => ?_)
    | with_reducible refine jF6.some ?_
    | with_reducible assumption
    | with_reducible exact jf6.refl _
    | with_reducible refine jf6.u ?_ (by first | exact Or.inl (by decide) | exact Or.inr (by decide))
    | with_reducible refine jf6.copies ?_
    | with_reducible refine jf6.empties ?_
    | with_reducible refine jf6.puts ?_
    | with_reducible refine jf6.drops ?_
    | with_reducible refine jf6.cl ?_
    | with_reducible refine jf6.no ?_
    | with_reducible refine jf6.iw ?_
    | with_reducible refine jf6.ha ?_
theorem f6_211_s : ∀ (m : Nat) (a1 : Nat) (a2 : jg_G) (a3 : Int) (a4 : Int), jF6 a2 (fo211_s m a1 a2 a3 a4) := by
  intro m
  induction m with
  | zero => intros; unfold fo211_s; exact jF6.none _
  | succ m ih =>
    intro a1 a2 a3 a4
    unfold fo211_s
    repeat' first
      | with_reducible exact jF6.none _
      | with_reducible refine jF6.ite ?_ ?_
      | with_reducible refine jF6.l (fun _ => ?_)
      | with_reducible refine jF6.call ?_ (ih _ _ _ _)
      | with_reducible refine jF6.call ?_ (f6_186 _ _ _)
      | with_reducible refine jF6.bind ?_ (fun x hx => ?_)
      | with_reducible refine jF6.some ?_
      | with_reducible assumption
      | with_reducible exact jf6.refl _
      | with_reducible refine jf6.u ?_ (by first | exact Or.inl (by decide) | exact Or.inr (by decide))
      | with_reducible refine jf6.copies ?_
      | with_reducible refine jf6.empties ?_
      | with_reducible refine jf6.puts ?_
      | with_reducible refine jf6.drops ?_
      | with_reducible refine jf6.cl ?_
      | with_reducible refine jf6.no ?_
      | with_reducible refine jf6.iw ?_
      | with_reducible refine jf6.ha ?_
theorem f6_211_2 : ∀ (m : Nat) (a1 : jg_G) (a2 : Int), jF6 a1 (fo211_2 m a1 a2) := by
  intro m
  induction m with
  | zero => intros; unfold fo211_2; exact jF6.none _
  | succ m ih =>
    intro a1 a2
    unfold fo211_2
    repeat' first
      | with_reducible exact jF6.none _
      | with_reducible refine jF6.ite ?_ ?_
      | with_reducible refine jF6.l (fun _ => ?_)
      | with_reducible refine jF6.call ?_ (ih _ _)
      | with_reducible refine jF6.call ?_ (f6_211_s _ _ _ _ _)
      | with_reducible refine jF6.bind ?_ (fun x hx => ?_)
      | with_reducible refine jF6.some ?_
      | with_reducible assumption
      | with_reducible exact jf6.refl _
      | with_reducible refine jf6.u ?_ (by first | exact Or.inl (by decide) | exact Or.inr (by decide))
      | with_reducible refine jf6.copies ?_
      | with_reducible refine jf6.empties ?_
      | with_reducible refine jf6.puts ?_
      | with_reducible refine jf6.drops ?_
      | with_reducible refine jf6.cl ?_
      | with_reducible refine jf6.no ?_
      | with_reducible refine jf6.iw ?_
      | with_reducible refine jf6.ha ?_
theorem f6_211 (a0 : jg_G) : jF6 a0 (fo211 a0) := by
  unfold fo211
  repeat' first
    | with_reducible exact jF6.none _
    | with_reducible refine jF6.ite ?_ ?_
    | with_reducible refine jF6.l (fun _ => ?_)
    | with_reducible refine jF6.call ?_ (f6_211_2 _ _ _)
    | with_reducible refine jF6.bind ?_ (fun x hx => ?_)
    | with_reducible refine jF6.some ?_
    | with_reducible assumption
    | with_reducible exact jf6.refl _
    | with_reducible refine jf6.u ?_ (by first | exact Or.inl (by decide) | exact Or.inr (by decide))
    | with_reducible refine jf6.copies ?_
    | with_reducible refine jf6.empties ?_
    | with_reducible refine jf6.puts ?_
    | with_reducible refine jf6.drops ?_
    | with_reducible refine jf6.cl ?_
    | with_reducible refine jf6.no ?_
    | with_reducible refine jf6.iw ?_
    | with_reducible refine jf6.ha ?_
theorem f6_212_32 : ∀ (m : Nat) (a1 : jg_G) (a2 : Int), jF6 a1 (fo212_32 m a1 a2) := by
  intro m
  induction m with
  | zero => intros; unfold fo212_32; exact jF6.none _
  | succ m ih =>
    intro a1 a2
    unfold fo212_32
    repeat' first
      | with_reducible exact jF6.none _
      | with_reducible refine jF6.ite ?_ ?_
      | with_reducible refine jF6.l (fun _ => ?_)
      | with_reducible refine jF6.call ?_ (ih _ _)
      | with_reducible refine jF6.call ?_ (f6_204 _)
      | with_reducible refine jF6.call ?_ (f6_205 _)
      | with_reducible refine jF6.call ?_ (f6_206 _)
      | with_reducible refine jF6.call ?_ (f6_210 _)
      | with_reducible refine jF6.call ?_ (f6_211 _)
      | with_reducible refine jF6.bind ?_ (fun x hx => ?_)
      | with_reducible refine jF6.some ?_
      | with_reducible assumption
      | with_reducible exact jf6.refl _
      | with_reducible refine jf6.u ?_ (by first | exact Or.inl (by decide) | exact Or.inr (by decide))
      | with_reducible refine jf6.copies ?_
      | with_reducible refine jf6.empties ?_
      | with_reducible refine jf6.puts ?_
      | with_reducible refine jf6.drops ?_
      | with_reducible refine jf6.cl ?_
      | with_reducible refine jf6.no ?_
      | with_reducible refine jf6.iw ?_
      | with_reducible refine jf6.ha ?_
