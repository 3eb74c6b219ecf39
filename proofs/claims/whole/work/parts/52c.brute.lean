theorem br3 : chkTs 3 10 = true := by decide +kernel
