theorem am_dL12 : ((((am_codes.getD 322 []).drop 1200).take 100).all (am_dok (am_bs.getD 322 ByteArray.empty))) = true := by decide +kernel
theorem am_dL13 : ((((am_codes.getD 322 []).drop 1300).take 100).all (am_dok (am_bs.getD 322 ByteArray.empty))) = true := by decide +kernel
