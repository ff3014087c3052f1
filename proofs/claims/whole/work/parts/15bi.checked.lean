/-! each method of the tables, checked -/
theorem ib_k251_4 : ib_chkAll (ib_ms[251]?.getD (yL_law, cL_law, maxLocals, ret, [], [])) 400 ib_c251_4 = true := by decide +kernel
theorem ib_k251_5 : ib_chkAll (ib_ms[251]?.getD (yL_law, cL_law, maxLocals, ret, [], [])) 500 ib_c251_5 = true := by decide +kernel
theorem ib_k251_6 : ib_chkAll (ib_ms[251]?.getD (yL_law, cL_law, maxLocals, ret, [], [])) 600 ib_c251_6 = true := by decide +kernel
theorem ib_k251_7 : ib_chkAll (ib_ms[251]?.getD (yL_law, cL_law, maxLocals, ret, [], [])) 700 ib_c251_7 = true := by decide +kernel
