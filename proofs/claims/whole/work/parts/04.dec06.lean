theorem am_dL8 : ((((am_codes.getD 322 []).drop 800).take 100).all (am_dok (am_bs.getD 322 ByteArray.empty))) = true := by decide +kernel
theorem am_dL9 : ((((am_codes.getD 322 []).drop 900).take 100).all (am_dok (am_bs.getD 322 ByteArray.empty))) = true := by decide +kernel
