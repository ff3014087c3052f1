/-! each method of the tables, checked -/
theorem ib_k251_8 : ib_chkAll (ib_ms[251]?.getD (yL_law, cL_law, maxLocals, ret, [], [])) 800 ib_c251_8 = true := by decide +kernel
theorem ib_k251_9 : ib_chkAll (ib_ms[251]?.getD (yL_law, cL_law, maxLocals, ret, [], [])) 900 ib_c251_9 = true := by decide +kernel
theorem ib_k251_10 : ib_chkAll (ib_ms[251]?.getD (yL_law, cL_law, maxLocals, ret, [], [])) 1000 ib_c251_10 = true := by decide +kernel
theorem ib_k251_11 : ib_chkAll (ib_ms[251]?.getD (yL_law, cL_law, maxLocals, ret, [], [])) 1100 ib_c251_11 = true := by decide +kernel
