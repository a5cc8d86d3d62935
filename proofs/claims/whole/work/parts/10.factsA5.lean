theorem am_m230 : ((List.range 46).all fun k => am_mchk (230 + k)) = true := by decide +kernel
