theorem okt_0 : ((List.range 40).drop 0).all (fun m => (tab m).all (rok m)) = true := by decide +kernel
theorem okt_1 : ((List.range 80).drop 40).all (fun m => (tab m).all (rok m)) = true := by decide +kernel
theorem okt_2 : ((List.range 110).drop 80).all (fun m => (tab m).all (rok m)) = true := by decide +kernel
theorem okt_3 : ((List.range 127).drop 110).all (fun m => (tab m).all (rok m)) = true := by decide +kernel
theorem okt_4 : ((List.range 150).drop 127).all (fun m => (tab m).all (rok m)) = true := by decide +kernel
theorem okt_5 : ((List.range 181).drop 150).all (fun m => (tab m).all (rok m)) = true := by decide +kernel
