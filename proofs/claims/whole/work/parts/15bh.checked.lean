/-! each method of the tables, checked -/
theorem ib_k251_0 : ib_chkAll (ib_ms[251]?.getD (yL_law, cL_law, maxLocals, ret, [], [])) 0 ib_c251_0 = true := by decide +kernel
theorem ib_k251_1 : ib_chkAll (ib_ms[251]?.getD (yL_law, cL_law, maxLocals, ret, [], [])) 100 ib_c251_1 = true := by decide +kernel
theorem ib_k251_2 : ib_chkAll (ib_ms[251]?.getD (yL_law, cL_law, maxLocals, ret, [], [])) 200 ib_c251_2 = true := by decide +kernel
theorem ib_k251_3 : ib_chkAll (ib_ms[251]?.getD (yL_law, cL_law, maxLocals, ret, [], [])) 300 ib_c251_3 = true := by decide +kernel
