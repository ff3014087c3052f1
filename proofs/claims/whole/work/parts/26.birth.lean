/-! the makings: run once -/
def jb_h0 : ib_H := ((2, 0, 0), (fun n => if n = 1 then (99, 0) else (0, 0)), (fun _ _ => 0), (fun _ _ => 0), (fun _ _ => 0))
def jb_h1 : Option ib_O := ib_run ib_Ms ib_ks ib_fn ib_ct 1000 14 106 0 (ib_ent 1 [.ref 2]) [] (ib_new jb_h0 10 0 (ib_fn 10))
def jb_h2 : ib_H := (jb_h1.getD (.inl none, jb_h0)).2
def jb_h3 : Option ib_O := ib_run ib_Ms ib_ks ib_fn ib_ct 1000 14 145 0 (ib_ent 2 [.ref 92]) [] (ib_new jb_h2 11 0 (ib_fn 11))
def jb_h4 : ib_H := (jb_h3.getD (.inl none, jb_h0)).2
theorem jb_b1 : jb_h1.isSome = true ∧ ib_nx jb_h2 = 92 := by decide +kernel
theorem jb_b2 : jb_h3.isSome = true ∧ ib_nx jb_h4 = 119 := by decide +kernel
theorem jb_b3 : ((List.range 119).all fun n => decide (n < 2) || decide (ib_sh jb_h4 n = fx_sh n)) = true := by decide +kernel
theorem jb_b4 : ((fx_pl.zipIdx).all fun r => (r.1.zipIdx).all fun q => match q.1 with
  | some v => decide (ib_P jb_h4 r.2 q.2 = v)
  | none => true) = true := by decide +kernel
theorem jb_b5 : ib_cc jb_h4 = 117 ∧ ib_sc jb_h4 = 324815 := by decide +kernel
