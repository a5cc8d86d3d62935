theorem am_dL10 : ((((am_codes.getD 322 []).drop 1000).take 100).all (am_dok (am_bs.getD 322 ByteArray.empty))) = true := by decide +kernel
theorem am_dL11 : ((((am_codes.getD 322 []).drop 1100).take 100).all (am_dok (am_bs.getD 322 ByteArray.empty))) = true := by decide +kernel
