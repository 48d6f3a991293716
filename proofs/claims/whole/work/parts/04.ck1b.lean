/-! THE CHECKS, by the kernel: bytes and instructions. -/
theorem tb_cz8 : (((tb_mL.zip tb_ilL).drop 80).take 10).all tb_ckq = true := by decide +kernel
theorem tb_cz9 : (((tb_mL.zip tb_ilL).drop 90).take 10).all tb_ckq = true := by decide +kernel
theorem tb_cz10 : (((tb_mL.zip tb_ilL).drop 100).take 10).all tb_ckq = true := by decide +kernel
theorem tb_cz11 : (((tb_mL.zip tb_ilL).drop 110).take 10).all tb_ckq = true := by decide +kernel
theorem tb_cz12 : (((tb_mL.zip tb_ilL).drop 120).take 10).all tb_ckq = true := by decide +kernel
theorem tb_cz13 : (((tb_mL.zip tb_ilL).drop 130).take 10).all tb_ckq = true := by decide +kernel
