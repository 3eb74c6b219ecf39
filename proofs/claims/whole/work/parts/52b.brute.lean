theorem br2 : chkTs 2 10 = true := by decide +kernel
