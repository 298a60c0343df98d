theorem tl_5 : ((tbL_law.drop 225).take 45).all tl_f = true := by decide +kernel
theorem tl_6 : ((tbL_law.drop 270).take 45).all tl_f = true := by decide +kernel
theorem tl_7 : ((tbL_law.drop 315).take 45).all tl_f = true := by decide +kernel
theorem tl_8 : ((tbL_law.drop 360).take 45).all tl_f = true := by decide +kernel
theorem tl_9 : ((tbL_law.drop 405).take 45).all tl_f = true := by decide +kernel
