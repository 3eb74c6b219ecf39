theorem br4 : chkTs 4 10 = true := by decide +kernel
