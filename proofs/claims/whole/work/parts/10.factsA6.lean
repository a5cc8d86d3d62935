theorem am_m276 : ((List.range 46).all fun k => am_mchk (276 + k)) = true := by decide +kernel
theorem am_mM {M : Nat} (hM : M < 322) : am_mchk M = true := by
  by_cases h46 : M < 46
  · have := List.all_eq_true.mp am_m0 (M - 0) (List.mem_range.mpr (by omega))
    rwa [show 0 + (M - 0) = M by omega] at this
  by_cases h92 : M < 92
  · have := List.all_eq_true.mp am_m46 (M - 46) (List.mem_range.mpr (by omega))
    rwa [show 46 + (M - 46) = M by omega] at this
  by_cases h138 : M < 138
  · have := List.all_eq_true.mp am_m92 (M - 92) (List.mem_range.mpr (by omega))
    rwa [show 92 + (M - 92) = M by omega] at this
  by_cases h184 : M < 184
  · have := List.all_eq_true.mp am_m138 (M - 138) (List.mem_range.mpr (by omega))
    rwa [show 138 + (M - 138) = M by omega] at this
  by_cases h230 : M < 230
  · have := List.all_eq_true.mp am_m184 (M - 184) (List.mem_range.mpr (by omega))
    rwa [show 184 + (M - 184) = M by omega] at this
  by_cases h276 : M < 276
  · have := List.all_eq_true.mp am_m230 (M - 230) (List.mem_range.mpr (by omega))
    rwa [show 230 + (M - 230) = M by omega] at this
  by_cases h322 : M < 322
  · have := List.all_eq_true.mp am_m276 (M - 276) (List.mem_range.mpr (by omega))
    rwa [show 276 + (M - 276) = M by omega] at this
  omega
