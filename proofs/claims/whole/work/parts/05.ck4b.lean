/-! THE CHECKS of methods' own words. -/
theorem tb_my0 : (((tb_mL.zip tb_mX).drop 121).take 10).all tb_mBq2 = true := by decide +kernel
theorem tb_my1 : (((tb_mL.zip tb_mX).drop 131).take 10).all tb_mBq2 = true := by decide +kernel
theorem tb_my2 : (((tb_mL.zip tb_mX).drop 141).take 10).all tb_mBq2 = true := by decide +kernel
theorem tb_my3 : (((tb_mL.zip tb_mX).drop 151).take 10).all tb_mBq2 = true := by decide +kernel
