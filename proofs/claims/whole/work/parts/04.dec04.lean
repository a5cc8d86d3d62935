theorem am_dL0 : ((((am_codes.getD 322 []).drop 0).take 100).all (am_dok (am_bs.getD 322 ByteArray.empty))) = true := by decide +kernel
theorem am_dL1 : ((((am_codes.getD 322 []).drop 100).take 100).all (am_dok (am_bs.getD 322 ByteArray.empty))) = true := by decide +kernel
theorem am_dL2 : ((((am_codes.getD 322 []).drop 200).take 100).all (am_dok (am_bs.getD 322 ByteArray.empty))) = true := by decide +kernel
theorem am_dL3 : ((((am_codes.getD 322 []).drop 300).take 100).all (am_dok (am_bs.getD 322 ByteArray.empty))) = true := by decide +kernel
