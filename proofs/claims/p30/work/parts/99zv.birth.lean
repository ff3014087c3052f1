/-! the makings: run once -/
def jb_h0 : ib_H := ((2, 0, 0), (fun n => if n = 1 then (99, 0) else (0, 0)), (fun _ _ => 0), (fun _ _ => 0), (fun _ _ => 0))
def jb_h1 : Option ib_O := ib_run ib_Ms ib_ks ib_fn ib_ct 1000 10 106 0 (ib_ent 1 [.ref 2]) [] (ib_new jb_h0 10 0 (ib_fn 10))
def jb_h2 : ib_H := (jb_h1.getD (.inl none, jb_h0)).2
/-- the law's rows made, too -/
def jb_rows (σ : ib_H) : ib_H := ib_new (ib_new (ib_new (ib_new (ib_new (ib_new σ 100 64 64) 100 32 32) 100 16 16) 100 64 64) 100 64 64) 100 64 64
def jb_h4 : ib_H := jb_rows jb_h2
theorem jb_b1 : jb_h1.isSome = true ∧ ib_nx jb_h2 = 92 := by decide +kernel
theorem jb_b2 : ib_nx jb_h4 = 98 := by decide +kernel
theorem jb_b3 : ((List.range 98).all fun n => decide (n < 2) || decide (ib_sh jb_h4 n = fx_sh n)) = true := by decide +kernel
theorem jb_b4 : ((fx_pl.zipIdx).all fun r => (r.1.zipIdx).all fun q => match q.1 with
  | some v => decide (ib_P jb_h4 r.2 q.2 = v)
  | none => true) = true := by decide +kernel
theorem jb_b5 : ib_cc jb_h4 ≤ 98 ∧ ib_sc jb_h4 ≤ 324816 := by decide +kernel
theorem jb_b6 : (match jb_h1 with | some (.inl none, _) => true | _ => false) = true := by decide +kernel
theorem jb_h1e : jb_h1 = some (.inl none, jb_h2) := by
  have h := jb_b6
  have e : jb_h2 = (jb_h1.getD (.inl none, jb_h0)).2 := rfl
  generalize jb_h1 = g at h e
  rcases g with _ | ⟨(_ | _) | _, σ⟩
  · cases h
  · rw [e]
    rfl
  · cases h
  · cases h
