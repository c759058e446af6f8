theorem okl_8 : tb181_8.all (rok 181) = true := by decide +kernel
theorem okl_9 : tb181_9.all (rok 181) = true := by decide +kernel
theorem okl_10 : tb181_10.all (rok 181) = true := by decide +kernel
theorem okl_11 : tb181_11.all (rok 181) = true := by decide +kernel
theorem okl_12 : tb181_12.all (rok 181) = true := by decide +kernel
theorem okl_13 : tb181_13.all (rok 181) = true := by decide +kernel
theorem okl_14 : tb181_14.all (rok 181) = true := by decide +kernel
