theorem tl_0 : ((tbL_law.drop 0).take 45).all tl_f = true := by decide +kernel
theorem tl_1 : ((tbL_law.drop 45).take 45).all tl_f = true := by decide +kernel
theorem tl_2 : ((tbL_law.drop 90).take 45).all tl_f = true := by decide +kernel
theorem tl_3 : ((tbL_law.drop 135).take 45).all tl_f = true := by decide +kernel
theorem tl_4 : ((tbL_law.drop 180).take 45).all tl_f = true := by decide +kernel
