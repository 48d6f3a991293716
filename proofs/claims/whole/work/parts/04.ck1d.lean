/-! THE CHECKS, by the kernel: bytes and instructions. -/
theorem tb_cz19 : (((tb_mL.zip tb_ilL).drop 190).take 10).all tb_ckq = true := by decide +kernel
theorem tb_cz20 : (((tb_mL.zip tb_ilL).drop 200).take 10).all tb_ckq = true := by decide +kernel
theorem tb_cz21 : (((tb_mL.zip tb_ilL).drop 210).take 10).all tb_ckq = true := by decide +kernel
theorem tb_cz22 : (((tb_mL.zip tb_ilL).drop 220).take 10).all tb_ckq = true := by decide +kernel
