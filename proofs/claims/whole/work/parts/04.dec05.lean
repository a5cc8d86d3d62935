theorem am_dL4 : ((((am_codes.getD 322 []).drop 400).take 100).all (am_dok (am_bs.getD 322 ByteArray.empty))) = true := by decide +kernel
theorem am_dL5 : ((((am_codes.getD 322 []).drop 500).take 100).all (am_dok (am_bs.getD 322 ByteArray.empty))) = true := by decide +kernel
theorem am_dL6 : ((((am_codes.getD 322 []).drop 600).take 100).all (am_dok (am_bs.getD 322 ByteArray.empty))) = true := by decide +kernel
theorem am_dL7 : ((((am_codes.getD 322 []).drop 700).take 100).all (am_dok (am_bs.getD 322 ByteArray.empty))) = true := by decide +kernel
