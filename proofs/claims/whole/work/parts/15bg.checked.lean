/-! each method of the tables, checked -/
theorem ib_k230 : ib_chkAll (ib_ms[230]?.getD (yL_law, cL_law, maxLocals, ret, [], [])) 0 ib_c230 = true := by
  unfold ib_c230
  rw [ib_chkAll_app, ib_k230_0, Bool.true_and, show 0 + ib_c230_0.length = 100 from rfl]
  rw [ib_chkAll_app, ib_k230_1, Bool.true_and, show 100 + ib_c230_1.length = 200 from rfl]
  rw [ib_chkAll_app, ib_k230_2, Bool.true_and, show 200 + ib_c230_2.length = 300 from rfl]
  rw [ib_chkAll_app, ib_k230_3, Bool.true_and, show 300 + ib_c230_3.length = 400 from rfl]
  exact ib_k230_4
