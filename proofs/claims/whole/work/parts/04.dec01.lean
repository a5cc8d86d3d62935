theorem am_d96 : ((List.range 27).all fun k => am_dokM (96 + k)) = true := by decide +kernel
theorem am_d123 : ((List.range 29).all fun k => am_dokM (123 + k)) = true := by decide +kernel
theorem am_d152 : ((List.range 19).all fun k => am_dokM (152 + k)) = true := by decide +kernel
theorem am_d171 : ((List.range 30).all fun k => am_dokM (171 + k)) = true := by decide +kernel
theorem am_d201 : ((List.range 13).all fun k => am_dokM (201 + k)) = true := by decide +kernel
