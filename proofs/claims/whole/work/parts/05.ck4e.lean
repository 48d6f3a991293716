/-! THE CHECKS of methods' own words. -/
theorem tb_my10 : (((tb_mL.zip tb_mX).drop 221).take 10).all tb_mBq2 = true := by decide +kernel
theorem tb_my11 : (((tb_mL.zip tb_mX).drop 231).take 10).all tb_mBq2 = true := by decide +kernel
theorem tb_my12 : (((tb_mL.zip tb_mX).drop 241).take 10).all tb_mBq2 = true := by decide +kernel
theorem tb_my13 : (((tb_mL.zip tb_mX).drop 251).take 10).all tb_mBq2 = true := by decide +kernel
