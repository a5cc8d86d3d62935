theorem am_m138 : ((List.range 46).all fun k => am_mchk (138 + k)) = true := by decide +kernel
