theorem okl_0 : tb187_0.all (rok 187) = true := by decide +kernel
theorem okl_1 : tb187_1.all (rok 187) = true := by decide +kernel
theorem okl_2 : tb187_2.all (rok 187) = true := by decide +kernel
theorem okl_3 : tb187_3.all (rok 187) = true := by decide +kernel
theorem okl_4 : tb187_4.all (rok 187) = true := by decide +kernel
theorem okl_5 : tb187_5.all (rok 187) = true := by decide +kernel
theorem okl_6 : tb187_6.all (rok 187) = true := by decide +kernel
theorem okl_7 : tb187_7.all (rok 187) = true := by decide +kernel
