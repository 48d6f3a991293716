/-! THE CHECKS, by the kernel. -/
theorem tb_cz0 : (((tb_mL.zip tb_ilL).drop 0).take 20).all tb_ckq = true := by decide +kernel
theorem tb_cz1 : (((tb_mL.zip tb_ilL).drop 20).take 20).all tb_ckq = true := by decide +kernel
theorem tb_cz2 : (((tb_mL.zip tb_ilL).drop 40).take 20).all tb_ckq = true := by decide +kernel
theorem tb_cz3 : (((tb_mL.zip tb_ilL).drop 60).take 20).all tb_ckq = true := by decide +kernel
theorem tb_cz4 : (((tb_mL.zip tb_ilL).drop 80).take 20).all tb_ckq = true := by decide +kernel
theorem tb_cz5 : (((tb_mL.zip tb_ilL).drop 100).take 20).all tb_ckq = true := by decide +kernel
theorem tb_cz6 : (((tb_mL.zip tb_ilL).drop 120).take 20).all tb_ckq = true := by decide +kernel
theorem tb_cz7 : (((tb_mL.zip tb_ilL).drop 140).take 20).all tb_ckq = true := by decide +kernel
theorem tb_cz8 : (((tb_mL.zip tb_ilL).drop 160).take 20).all tb_ckq = true := by decide +kernel
theorem tb_cz9 : (((tb_mL.zip tb_ilL).drop 180).take 20).all tb_ckq = true := by decide +kernel
theorem tb_cz10 : (((tb_mL.zip tb_ilL).drop 200).take 20).all tb_ckq = true := by decide +kernel
theorem tb_cz11 : (((tb_mL.zip tb_ilL).drop 220).take 20).all tb_ckq = true := by decide +kernel
theorem tb_cz12 : (((tb_mL.zip tb_ilL).drop 240).take 20).all tb_ckq = true := by decide +kernel
theorem tb_cz13 : (((tb_mL.zip tb_ilL).drop 260).take 20).all tb_ckq = true := by decide +kernel
