/-! THE CHECKS, by the kernel: bytes and instructions. -/
theorem tb_cz14 : (((tb_mL.zip tb_ilL).drop 140).take 10).all tb_ckq = true := by decide +kernel
theorem tb_cz15 : (((tb_mL.zip tb_ilL).drop 150).take 10).all tb_ckq = true := by decide +kernel
theorem tb_cz16 : (((tb_mL.zip tb_ilL).drop 160).take 10).all tb_ckq = true := by decide +kernel
theorem tb_cz17 : (((tb_mL.zip tb_ilL).drop 170).take 10).all tb_ckq = true := by decide +kernel
theorem tb_cz18 : (((tb_mL.zip tb_ilL).drop 180).take 10).all tb_ckq = true := by decide +kernel
