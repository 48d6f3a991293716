/-! THE CHECKS of methods' own words. -/
theorem tb_mz6 : (((tb_mL.zip tb_mX).drop 121).take 20).all tb_mBq = true := by decide +kernel
theorem tb_mz7 : (((tb_mL.zip tb_mX).drop 141).take 20).all tb_mBq = true := by decide +kernel
theorem tb_mz8 : (((tb_mL.zip tb_mX).drop 161).take 20).all tb_mBq = true := by decide +kernel
theorem tb_mz9 : (((tb_mL.zip tb_mX).drop 181).take 20).all tb_mBq = true := by decide +kernel
theorem tb_mz10 : (((tb_mL.zip tb_mX).drop 201).take 20).all tb_mBq = true := by decide +kernel
theorem tb_mz11 : (((tb_mL.zip tb_mX).drop 221).take 20).all tb_mBq = true := by decide +kernel
theorem tb_mz12 : (((tb_mL.zip tb_mX).drop 241).take 20).all tb_mBq = true := by decide +kernel
