theorem tl_10 : ((tbL_law.drop 450).take 45).all tl_f = true := by decide +kernel
theorem tl_11 : ((tbL_law.drop 495).take 45).all tl_f = true := by decide +kernel
theorem tl_12 : ((tbL_law.drop 540).take 45).all tl_f = true := by decide +kernel
theorem tl_13 : ((tbL_law.drop 585).take 45).all tl_f = true := by decide +kernel
theorem tl_14 : ((tbL_law.drop 630).take 45).all tl_f = true := by decide +kernel
