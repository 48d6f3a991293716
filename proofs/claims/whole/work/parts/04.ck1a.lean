/-! THE CHECKS, by the kernel: bytes and instructions. -/
theorem tb_cz0 : (((tb_mL.zip tb_ilL).drop 0).take 10).all tb_ckq = true := by decide +kernel
theorem tb_cz1 : (((tb_mL.zip tb_ilL).drop 10).take 10).all tb_ckq = true := by decide +kernel
theorem tb_cz2 : (((tb_mL.zip tb_ilL).drop 20).take 10).all tb_ckq = true := by decide +kernel
theorem tb_cz3 : (((tb_mL.zip tb_ilL).drop 30).take 10).all tb_ckq = true := by decide +kernel
theorem tb_cz4 : (((tb_mL.zip tb_ilL).drop 40).take 10).all tb_ckq = true := by decide +kernel
theorem tb_cz5 : (((tb_mL.zip tb_ilL).drop 50).take 10).all tb_ckq = true := by decide +kernel
theorem tb_cz6 : (((tb_mL.zip tb_ilL).drop 60).take 10).all tb_ckq = true := by decide +kernel
theorem tb_cz7 : (((tb_mL.zip tb_ilL).drop 70).take 10).all tb_ckq = true := by decide +kernel
