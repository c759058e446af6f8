theorem okl_8 : tb187_8.all (rok 187) = true := by decide +kernel
theorem okl_9 : tb187_9.all (rok 187) = true := by decide +kernel
theorem okl_10 : tb187_10.all (rok 187) = true := by decide +kernel
theorem okl_11 : tb187_11.all (rok 187) = true := by decide +kernel
theorem okl_12 : tb187_12.all (rok 187) = true := by decide +kernel
theorem okl_13 : tb187_13.all (rok 187) = true := by decide +kernel
theorem okl_14 : tb187_14.all (rok 187) = true := by decide +kernel
