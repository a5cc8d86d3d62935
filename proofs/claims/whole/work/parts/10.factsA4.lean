theorem am_m184 : ((List.range 46).all fun k => am_mchk (184 + k)) = true := by decide +kernel
