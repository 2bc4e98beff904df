theorem e_probe : vwCl.length = 13 := by decide +kernel
