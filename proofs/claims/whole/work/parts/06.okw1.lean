theorem okl_0 : tb181_0.all (rok 181) = true := by decide +kernel
theorem okl_1 : tb181_1.all (rok 181) = true := by decide +kernel
theorem okl_2 : tb181_2.all (rok 181) = true := by decide +kernel
theorem okl_3 : tb181_3.all (rok 181) = true := by decide +kernel
theorem okl_4 : tb181_4.all (rok 181) = true := by decide +kernel
theorem okl_5 : tb181_5.all (rok 181) = true := by decide +kernel
theorem okl_6 : tb181_6.all (rok 181) = true := by decide +kernel
theorem okl_7 : tb181_7.all (rok 181) = true := by decide +kernel
