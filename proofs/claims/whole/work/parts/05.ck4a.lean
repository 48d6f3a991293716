/-! THE CHECKS of methods' own words. -/
theorem tb_mz0 : (((tb_mL.zip tb_mX).drop 1).take 20).all tb_mBq2 = true := by decide +kernel
theorem tb_mz1 : (((tb_mL.zip tb_mX).drop 21).take 20).all tb_mBq2 = true := by decide +kernel
theorem tb_mz2 : (((tb_mL.zip tb_mX).drop 41).take 20).all tb_mBq2 = true := by decide +kernel
theorem tb_mz3 : (((tb_mL.zip tb_mX).drop 61).take 20).all tb_mBq2 = true := by decide +kernel
theorem tb_mz4 : (((tb_mL.zip tb_mX).drop 81).take 20).all tb_mBq2 = true := by decide +kernel
theorem tb_mz5 : (((tb_mL.zip tb_mX).drop 101).take 20).all tb_mBq2 = true := by decide +kernel
