theorem am_m46 : ((List.range 46).all fun k => am_mchk (46 + k)) = true := by decide +kernel
