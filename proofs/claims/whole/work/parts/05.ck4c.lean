/-! THE CHECKS of methods' own words. -/
theorem tb_my4 : (((tb_mL.zip tb_mX).drop 161).take 10).all tb_mBq2 = true := by decide +kernel
theorem tb_my5 : (((tb_mL.zip tb_mX).drop 171).take 10).all tb_mBq2 = true := by decide +kernel
theorem tb_my6 : (((tb_mL.zip tb_mX).drop 181).take 10).all tb_mBq2 = true := by decide +kernel
