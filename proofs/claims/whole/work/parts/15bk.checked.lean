/-! each method of the tables, checked -/
theorem ib_k251_12 : ib_chkAll (ib_ms[251]?.getD (yL_law, cL_law, maxLocals, ret, [], [])) 1200 ib_c251_12 = true := by decide +kernel
theorem ib_k251_13 : ib_chkAll (ib_ms[251]?.getD (yL_law, cL_law, maxLocals, ret, [], [])) 1300 ib_c251_13 = true := by decide +kernel
theorem ib_k251_14 : ib_chkAll (ib_ms[251]?.getD (yL_law, cL_law, maxLocals, ret, [], [])) 1400 ib_c251_14 = true := by decide +kernel
