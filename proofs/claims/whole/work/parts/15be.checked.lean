/-! each method of the tables, checked -/
theorem ib_k230_0 : ib_chkAll (ib_ms[230]?.getD (yL_law, cL_law, maxLocals, ret, [], [])) 0 ib_c230_0 = true := by decide +kernel
theorem ib_k230_1 : ib_chkAll (ib_ms[230]?.getD (yL_law, cL_law, maxLocals, ret, [], [])) 100 ib_c230_1 = true := by decide +kernel
theorem ib_k230_2 : ib_chkAll (ib_ms[230]?.getD (yL_law, cL_law, maxLocals, ret, [], [])) 200 ib_c230_2 = true := by decide +kernel
theorem ib_k230_3 : ib_chkAll (ib_ms[230]?.getD (yL_law, cL_law, maxLocals, ret, [], [])) 300 ib_c230_3 = true := by decide +kernel
