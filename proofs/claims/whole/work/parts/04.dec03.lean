theorem am_d304 : ((List.range 18).all fun k => am_dokM (304 + k)) = true := by decide +kernel
