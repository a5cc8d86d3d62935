/-! ===== bits of a set of crosses ===== -/
theorem shs_D : ∀ n, n < 25 → ((iI (n : Nat)).toInt64.toUInt64 &&& Int64.toUInt64 63) = UInt64.ofNat n ∧ ((iI (n : Nat)).toInt64 &&& 63).toBitVec.smod 64 = BitVec.ofNat 64 n ∧ lShl 1 (n : Nat) = 2 ^ n ∧ bShl 1 (n : Nat) = 2 ^ n := by decide +kernel
theorem u64_toInt (v : UInt64) : v.toInt64.toInt = Int.bmod (v.toNat : Int) (2 ^ 64) := by
  rw [← Int64.toInt_toBitVec]
  show (v.toBitVec).toInt = _
  rw [BitVec.toInt_eq_toNat_bmod]
  rfl
theorem lI_u64 (x : Int) : ((lI x).toUInt64.toNat : Int) = x % 2 ^ 64 := by
  show ((BitVec.ofInt 64 x).toNat : Int) = _
  rw [BitVec.toNat_ofInt]
  omega
theorem lUshr_eq {x : Int} {n : Nat} (hn : n < 25) : lUshr x n = Int.bmod ((x % 2 ^ 64).toNat / 2 ^ n : Nat) (2 ^ 64) := by
  unfold lUshr
  rw [(shs_D n hn).1, u64_toInt, UInt64.toNat_shiftRight]
  have h1 := lI_u64 x
  have h2 : (lI x).toUInt64.toNat = (x % 2 ^ 64).toNat := by omega
  have h3 : (UInt64.ofNat n).toNat % 64 = n := by
    rw [UInt64.toNat_ofNat']
    omega
  rw [h2, h3, Nat.shiftRight_eq_div_pow]
theorem lUshr_nat {s n : Nat} (hs : s < 2 ^ 62) (hn : n < 25) : lUshr (s : Int) n = ((s / 2 ^ n : Nat) : Int) := by
  rw [lUshr_eq hn]
  have h1 : ((s : Int) % 2 ^ 64).toNat = s := by omega
  rw [h1]
  have h2 : s / 2 ^ n ≤ s := Nat.div_le_self _ _
  generalize s / 2 ^ n = q at *
  rw [Int.bmod_eq_of_le]
  · omega
  · omega
theorem lUshr_0 {x : Int} {n : Nat} (hx : rK x) (hn : n < 25) : lcI (lUshr x n) 0 = 0 ↔ 0 ≤ x ∧ x < 2 ^ n := by
  rw [lUshr_eq hn]
  have h25 : (2 : Nat) ^ n ≤ 2 ^ 24 := Nat.pow_le_pow_right (by decide) (by omega)
  have hp : 0 < (2 : Nat) ^ n := Nat.pow_pos (by decide)
  have e2 : ((2 : Int) ^ n) = ((2 ^ n : Nat) : Int) := by push_cast; rfl
  have hb : ∀ v : Nat, v < 2 ^ 64 → (Int.bmod (v : Int) (2 ^ 64) = 0 ↔ v = 0) := by
    intro v hv
    rw [Int.bmod_def]
    split <;> omega
  have hl : ∀ z : Int, lcI z 0 = 0 ↔ z = 0 := by
    intro z
    unfold lcI
    split
    · omega
    · split <;> omega
  have hlt : (x % 2 ^ 64).toNat / 2 ^ n < 2 ^ 64 := Nat.lt_of_le_of_lt (Nat.div_le_self _ _) (by omega)
  rw [hl, hb _ hlt, Nat.div_eq_zero_iff_lt hp, e2]
  omega
theorem lAnd1 {s : Nat} (hs : s < 2 ^ 62) : lAnd (s : Int) 1 = ((s % 2 : Nat) : Int) := by
  unfold lAnd
  rw [← Int64.toInt_toBitVec]
  have : (lI (s : Int) &&& lI 1).toBitVec = BitVec.ofNat 64 (s % 2) := by
    apply BitVec.eq_of_toNat_eq
    show ((BitVec.ofInt 64 (s : Int)) &&& (BitVec.ofInt 64 1)).toNat = _
    rw [BitVec.toNat_and, BitVec.toNat_ofInt, BitVec.toNat_ofInt, BitVec.toNat_ofNat]
    have h1 : ((s : Int) % ((2 ^ 64 : Nat) : Int)).toNat = s := by omega
    have h2 : ((1 : Int) % ((2 ^ 64 : Nat) : Int)).toNat = 1 := by decide
    rw [h1, h2, Nat.and_one_is_mod]
    omega
  rw [this, BitVec.toInt_eq_toNat_bmod, BitVec.toNat_ofNat, Int.bmod_eq_of_le]
  · omega
  · omega
  · omega
theorem lShr_nat {s n : Nat} (hs : s < 2 ^ 62) (hn : n < 25) : lShr (s : Int) n = ((s / 2 ^ n : Nat) : Int) := by
  unfold lShr
  rw [← Int64.toInt_toBitVec, Int64.toBitVec_shiftRight, (shs_D n hn).2.1]
  show ((BitVec.ofInt 64 (s : Int)).sshiftRight' (BitVec.ofNat 64 n)).toInt = _
  rw [BitVec.toInt_sshiftRight', BitVec.toInt_ofInt, BitVec.toNat_ofNat, Int.bmod_eq_of_le, show n % 2 ^ 64 = n by omega, Int.shiftRight_eq_div_pow]
  · push_cast; rfl
  · omega
  · omega
theorem tbit {s n : Nat} (hs : s < 2 ^ 62) : lcI (lAnd ((s / 2 ^ n : Nat) : Int) 1) 1 = 0 ↔ s.testBit n = true := by
  have h2 : s / 2 ^ n ≤ s := Nat.div_le_self _ _
  rw [lAnd1 (by omega), Nat.testBit_eq_decide_div_mod_eq, decide_eq_true_eq]
  unfold lcI
  split
  · omega
  · split <;> omega
theorem tbitU {s n : Nat} (hs : s < 2 ^ 62) (hn : n < 25) : lcI (lAnd (lUshr (s : Int) n) 1) 1 = 0 ↔ s.testBit n = true := by
  rw [lUshr_nat hs hn]
  exact tbit hs
theorem tbitS {s n : Nat} (hs : s < 2 ^ 62) (hn : n < 25) : lcI (lAnd (lShr (s : Int) n) 1) 1 = 0 ↔ s.testBit n = true := by
  rw [lShr_nat hs hn]
  exact tbit hs
