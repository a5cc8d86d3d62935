theorem am_m92 : ((List.range 46).all fun k => am_mchk (92 + k)) = true := by decide +kernel
