/-! each method of the tables, checked -/
theorem ib_k251 : ib_chkAll (ib_ms[251]?.getD (yL_law, cL_law, maxLocals, ret, [], [])) 0 ib_c251 = true := by
  unfold ib_c251
  rw [ib_chkAll_app, ib_k251_0, Bool.true_and, show 0 + ib_c251_0.length = 100 from rfl]
  rw [ib_chkAll_app, ib_k251_1, Bool.true_and, show 100 + ib_c251_1.length = 200 from rfl]
  rw [ib_chkAll_app, ib_k251_2, Bool.true_and, show 200 + ib_c251_2.length = 300 from rfl]
  rw [ib_chkAll_app, ib_k251_3, Bool.true_and, show 300 + ib_c251_3.length = 400 from rfl]
  rw [ib_chkAll_app, ib_k251_4, Bool.true_and, show 400 + ib_c251_4.length = 500 from rfl]
  rw [ib_chkAll_app, ib_k251_5, Bool.true_and, show 500 + ib_c251_5.length = 600 from rfl]
  rw [ib_chkAll_app, ib_k251_6, Bool.true_and, show 600 + ib_c251_6.length = 700 from rfl]
  rw [ib_chkAll_app, ib_k251_7, Bool.true_and, show 700 + ib_c251_7.length = 800 from rfl]
  rw [ib_chkAll_app, ib_k251_8, Bool.true_and, show 800 + ib_c251_8.length = 900 from rfl]
  rw [ib_chkAll_app, ib_k251_9, Bool.true_and, show 900 + ib_c251_9.length = 1000 from rfl]
  rw [ib_chkAll_app, ib_k251_10, Bool.true_and, show 1000 + ib_c251_10.length = 1100 from rfl]
  rw [ib_chkAll_app, ib_k251_11, Bool.true_and, show 1100 + ib_c251_11.length = 1200 from rfl]
  rw [ib_chkAll_app, ib_k251_12, Bool.true_and, show 1200 + ib_c251_12.length = 1300 from rfl]
  rw [ib_chkAll_app, ib_k251_13, Bool.true_and, show 1300 + ib_c251_13.length = 1400 from rfl]
  exact ib_k251_14
