/-! each method of the tables, checked -/
theorem ib_k230_4 : ib_chkAll (ib_ms[230]?.getD (yL_law, cL_law, maxLocals, ret, [], [])) 400 ib_c230_4 = true := by decide +kernel
