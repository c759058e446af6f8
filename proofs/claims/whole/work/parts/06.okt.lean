theorem ok_0 : (tab 0).all (rok 0) = true := by decide +kernel
theorem ok_27 : (tab 27).all (rok 27) = true := by decide +kernel
