/-! THE CHECKS of methods' own words. -/
theorem tb_my7 : (((tb_mL.zip tb_mX).drop 191).take 10).all tb_mBq2 = true := by decide +kernel
theorem tb_my8 : (((tb_mL.zip tb_mX).drop 201).take 10).all tb_mBq2 = true := by decide +kernel
theorem tb_my9 : (((tb_mL.zip tb_mX).drop 211).take 10).all tb_mBq2 = true := by decide +kernel
