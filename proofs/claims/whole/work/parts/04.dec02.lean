theorem am_d214 : ((List.range 19).all fun k => am_dokM (214 + k)) = true := by decide +kernel
theorem am_d233 : ((List.range 29).all fun k => am_dokM (233 + k)) = true := by decide +kernel
theorem am_d262 : ((List.range 15).all fun k => am_dokM (262 + k)) = true := by decide +kernel
theorem am_d277 : ((List.range 12).all fun k => am_dokM (277 + k)) = true := by decide +kernel
theorem am_d289 : ((List.range 15).all fun k => am_dokM (289 + k)) = true := by decide +kernel
