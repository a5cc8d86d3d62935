theorem am_m120 : ((List.range 60).all fun k => am_mchk (120 + k)) = true := by decide +kernel
theorem am_m180 : ((List.range 60).all fun k => am_mchk (180 + k)) = true := by decide +kernel
theorem am_m240 : ((List.range 60).all fun k => am_mchk (240 + k)) = true := by decide +kernel
theorem am_m300 : ((List.range 22).all fun k => am_mchk (300 + k)) = true := by decide +kernel
theorem am_mM {M : Nat} (hM : M < 322) : am_mchk M = true := by
  by_cases h60 : M < 60
  · have := List.all_eq_true.mp am_m0 (M - 0) (List.mem_range.mpr (by omega))
    rwa [show 0 + (M - 0) = M by omega] at this
  by_cases h120 : M < 120
  · have := List.all_eq_true.mp am_m60 (M - 60) (List.mem_range.mpr (by omega))
    rwa [show 60 + (M - 60) = M by omega] at this
  by_cases h180 : M < 180
  · have := List.all_eq_true.mp am_m120 (M - 120) (List.mem_range.mpr (by omega))
    rwa [show 120 + (M - 120) = M by omega] at this
  by_cases h240 : M < 240
  · have := List.all_eq_true.mp am_m180 (M - 180) (List.mem_range.mpr (by omega))
    rwa [show 180 + (M - 180) = M by omega] at this
  by_cases h300 : M < 300
  · have := List.all_eq_true.mp am_m240 (M - 240) (List.mem_range.mpr (by omega))
    rwa [show 240 + (M - 240) = M by omega] at this
  by_cases h322 : M < 322
  · have := List.all_eq_true.mp am_m300 (M - 300) (List.mem_range.mpr (by omega))
    rwa [show 300 + (M - 300) = M by omega] at this
  omega
