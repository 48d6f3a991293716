/-! THE CHECKS, by the kernel: bytes and instructions. -/
theorem tb_cz23 : (((tb_mL.zip tb_ilL).drop 230).take 10).all tb_ckq = true := by decide +kernel
theorem tb_cz24 : (((tb_mL.zip tb_ilL).drop 240).take 10).all tb_ckq = true := by decide +kernel
theorem tb_cz25 : (((tb_mL.zip tb_ilL).drop 250).take 10).all tb_ckq = true := by decide +kernel
