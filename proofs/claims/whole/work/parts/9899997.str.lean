/-! ===== texts: length, charAt ===== -/
/-- what stands beside the texts: nothing, or one thing -/
def EV (E : am_E) : Prop := E.2 = .null ∨ E.2 = .ref 1003000
def txI (n : Nat) : List Int32 := match am_txt[n]? with
  | some q => q.2.2.2.1
  | none => []
def tx (n : Nat) : List Int := (txI n).map (fun z => z.toInt)
theorem tx_D : ∀ n, n < 27 → (txI n).length < 7 ∧ 0 < (txI n).length ∧ ∀ j, j < (txI n).length → 0 ≤ ((txI n).getD j 0).toInt ∧ ((txI n).getD j 0).toInt < 128 := by decide +kernel
theorem tx_len (n : Nat) : (tx n).length = (txI n).length := List.length_map ..
theorem tx_at {n j : Nat} (hj : j < (txI n).length) : (tx n).getD j 0 = ((txI n).getD j 0).toInt := by
  unfold tx
  rw [List.getD_eq_getElem?_getD, List.getD_eq_getElem?_getD, List.getElem?_map, List.getElem?_eq_getElem hj]
  rfl
section TX
variable {E : am_E} {k M pc : Nat} {L : am_L} {r : List Value} {h : am_H} {Q : Option Value → am_H → Prop}
theorem am_gf9 {n : Nat} (hn : n < 27) : am_gf 11 9 (1000000 + 2 * n) h = some (.ref (1000000 + 2 * n + 1)) := by
  unfold am_gf
  rw [if_neg (by omega), if_pos (by omega), if_pos rfl]
theorem am_gf15 {n : Nat} (hn : n < 27) : am_gf 11 15 (1000000 + 2 * n) h = some (.int 0) := by
  unfold am_gf
  rw [if_neg (by omega), if_pos (by omega), if_neg (by decide), if_pos rfl]
theorem am_arrT {n : Nat} (hn : n < 27) : am_arr E h (1000000 + 2 * n + 1) = some (.byte, (txI n).length, .inl (fun j => (txI n).getD j 0)) := by
  unfold am_arr am_rd
  rw [if_neg (by omega), if_neg (by omega), if_neg (by omega), if_neg (by omega), if_pos (by omega), show (1000000 + 2 * n + 1 - 1000000) / 2 = n by omega]
  have h27 : am_txt.length = 27 := rfl
  have : ∃ q, am_txt[n]? = some q := ⟨am_txt[n]'(by omega), List.getElem?_eq_getElem _⟩
  obtain ⟨q, hq⟩ := this
  unfold txI
  rw [hq]
theorem wp_gf9 {n : Nat} (hc : am_code M pc = some (.getfield 9)) (ho : am_own1 M = 11) (hn : n < 27) (w : wp E k M (pc + 3) L (.ref (1000000 + 2 * n + 1) :: r) h Q) : wp E k M pc L (.ref (1000000 + 2 * n) :: r) h Q := by
  refine wp_s (q := (pc + 3, L, .ref (1000000 + 2 * n + 1) :: r, h)) hc ?_ w
  simp only [am_s, ho, am_gf9 hn]
theorem wp_gf15 {n : Nat} (hc : am_code M pc = some (.getfield 15)) (ho : am_own1 M = 11) (hn : n < 27) (w : wp E k M (pc + 3) L (.int 0 :: r) h Q) : wp E k M pc L (.ref (1000000 + 2 * n) :: r) h Q := by
  refine wp_s (q := (pc + 3, L, .int 0 :: r, h)) hc ?_ w
  simp only [am_s, ho, am_gf15 hn]
theorem wp_alT {n : Nat} (hc : am_code M pc = some .arraylength) (hn : n < 27) (w : wp E k M (pc + 1) L (.int (iI ((txI n).length : Int)) :: r) h Q) : wp E k M pc L (.ref (1000000 + 2 * n + 1) :: r) h Q := by
  refine wp_s (q := (pc + 1, L, .int (iI ((txI n).length : Int)) :: r, h)) hc ?_ w
  simp only [am_s, am_arrT hn]
  rfl
theorem wp_bldT {n j : Nat} (hc : am_code M pc = some .baload) (hn : n < 27) (hj : j < (txI n).length) (w : wp E k M (pc + 1) L (.int ((txI n).getD j 0) :: r) h Q) : wp E k M pc L (.int (iI (j : Int)) :: .ref (1000000 + 2 * n + 1) :: r) h Q := by
  have h7 := tx_D n hn
  refine wp_s (q := (pc + 1, L, .int ((txI n).getD j 0) :: r, h)) hc ?_ w
  simp only [am_s, am_arrT hn, am_rdb, am_inb_I (show 0 ≤ (j : Int) by omega) (show (j : Int) < ((txI n).length : Int) by omega) (show (txI n).length ≤ 100000 by omega), cond_true, iI_nat (show 0 ≤ (j : Int) by omega) (show (j : Int) < 2147483648 by omega), Int.toNat_natCast]
theorem c_coder {n : Nat} (hn : n < 27) : wp E k 315 0 (am_entry [.ref (1000000 + 2 * n)] 1) [] h (fun r h1 => r = some (.int 0) ∧ h1 = h) := by
  refine wp_g (n := 3) (pc' := 7) (L' := [some (.ref (1000000 + 2 * n))]) (st' := [.ref (1000000 + 2 * n)]) rfl ?_
  refine wp_gf15 rfl rfl hn ?_
  refine wp_g (n := 1) (pc' := 14) (L' := [some (.ref (1000000 + 2 * n))]) (st' := [.int 0]) rfl ?_
  exact wp_ret (r := some (.int 0)) rfl rfl rfl ⟨rfl, rfl⟩
theorem c_latin {n : Nat} (hn : n < 27) : wp E k 316 0 (am_entry [.ref (1000000 + 2 * n)] 1) [] h (fun r h1 => r = some (.int 1) ∧ h1 = h) := by
  refine wp_g (n := 3) (pc' := 7) (L' := [some (.ref (1000000 + 2 * n))]) (st' := [.ref (1000000 + 2 * n)]) rfl ?_
  refine wp_gf15 rfl rfl hn ?_
  refine wp_g (n := 3) (pc' := 18) (L' := [some (.ref (1000000 + 2 * n))]) (st' := [.int 1]) rfl ?_
  exact wp_ret (r := some (.int 1)) rfl rfl rfl ⟨rfl, rfl⟩
theorem ish_D : ∀ l, l < 7 → iI ((l : Nat) : Int) >>> ((0 : Int32) &&& 31) = iI ((l : Nat) : Int) := by decide +kernel
theorem c_length {n : Nat} (hn : n < 27) : wp E (k + 1) 313 0 (am_entry [.ref (1000000 + 2 * n)] 1) [] h (fun r h1 => r = some (.int (iI ((tx n).length : Int))) ∧ h1 = h) := by
  have h7 := tx_D n hn
  refine wp_g (n := 1) (pc' := 1) (L' := [some (.ref (1000000 + 2 * n))]) (st' := [.ref (1000000 + 2 * n)]) rfl ?_
  refine wp_gf9 rfl rfl hn ?_
  refine wp_alT rfl hn ?_
  refine wp_g (n := 1) (pc' := 6) (L' := [some (.ref (1000000 + 2 * n))]) (st' := [.ref (1000000 + 2 * n), .int (iI ((txI n).length : Int))]) rfl ?_
  refine wp_cvS (As := []) (rest := [.int (iI ((txI n).length : Int))]) (M' := 315) rfl rfl ⟨n, hn, rfl⟩ rfl rfl rfl (Nat.le_of_ble_eq_true rfl) (Nat.le_of_ble_eq_true rfl) (c_coder hn) (fun r1 h1 q => ?_)
  obtain ⟨rfl, rfl⟩ := q
  refine wp_i2 (i := .ishr) (f := fun x y => x >>> (y &&& 31)) (a := iI ((txI n).length : Int)) (b := 0) (c := iI ((txI n).length : Int)) rfl (fun _ => rfl) (ish_D _ h7.1) ?_
  refine wp_iret rfl rfl ⟨?_, rfl⟩
  rw [tx_len]
theorem c_chk2 {i n : Int} (hE : EV E) (h0 : 0 ≤ i) (hi : i < n) (hn : n < 1000) : wp E k 321 0 (am_entry [.int (iI i), .int (iI n), E.2] 3) [] h (fun r h1 => r = some (.int (iI i)) ∧ h1 = h) := by
  have hL : am_entry [.int (iI i), .int (iI n), E.2] 3 = [some (.int (iI i)), some (.int (iI n)), some E.2] := by
    rcases hE with e | e <;> rw [e] <;> rfl
  rw [hL]
  refine wp_g (n := 1) (pc' := 1) (L' := [some (.int (iI i)), some (.int (iI n)), some E.2]) (st' := [.int (iI i)]) rfl ?_
  refine wp_ifI rfl rfl (by omega) (by omega) (fun c => ?_) (fun _ => ?_)
  · have c : i < 0 := c
    omega
  · refine wp_g (n := 2) (pc' := 6) (L' := [some (.int (iI i)), some (.int (iI n)), some E.2]) (st' := [.int (iI n), .int (iI i)]) rfl ?_
    refine wp_icmpI rfl rfl (by omega) (by omega) (by omega) (by omega) (fun _ => ?_) (fun c => ?_)
    · refine wp_g (n := 1) (pc' := 17) (L' := [some (.int (iI i)), some (.int (iI n)), some E.2]) (st' := [.int (iI i)]) rfl ?_
      exact wp_iret rfl rfl ⟨rfl, rfl⟩
    · have c : ¬ i < n := c
      omega
theorem c_chk {i n : Int} (hE : EV E) (h0 : 0 ≤ i) (hi : i < n) (hn : n < 1000) : wp E (k + 1) 317 0 (am_entry [.int (iI i), .int (iI n)] 2) [] h (fun r h1 => r = none ∧ h1 = h) := by
  refine wp_g (n := 3) (pc' := 5) (L' := [some (.int (iI i)), some (.int (iI n))]) (st' := [E.2, .int (iI n), .int (iI i)]) rfl ?_
  refine wp_cs (As := [.int (iI i), .int (iI n), E.2]) (rest := []) (M' := 321) rfl rfl rfl rfl (Nat.le_of_ble_eq_true rfl) ?_ (c_chk2 hE h0 hi hn) (fun r1 h1 q => ?_)
  · rcases hE with e | e <;> rw [e] <;> exact Nat.le_of_ble_eq_true rfl
  obtain ⟨rfl, rfl⟩ := q
  refine wp_g (n := 1) (pc' := 9) (L' := [some (.int (iI i)), some (.int (iI n))]) (st' := []) rfl ?_
  exact wp_vret rfl rfl ⟨rfl, rfl⟩
theorem chr_D : ∀ z, z < 128 → (((iI ((z : Nat) : Int)) &&& (Int16.ofInt 255).toInt32).toUInt32 % 65536).toInt32 = iI ((z : Nat) : Int) := by decide +kernel
theorem c_chr {n j : Nat} (hE : EV E) (hn : n < 27) (hj : j < (txI n).length) : wp E (k + 2) 318 0 (am_entry [.ref (1000000 + 2 * n + 1), .int (iI (j : Int))] 2) [] h (fun r h1 => r = some (.int (iI ((tx n).getD j 0))) ∧ h1 = h) := by
  have h7 := tx_D n hn
  have hz := h7.2.2 j hj
  have e0 : (txI n).getD j 0 = iI ((((txI n).getD j 0).toInt.toNat : Nat) : Int) := by
    rw [Int.toNat_of_nonneg hz.1]
    exact (Int32.ofInt_toInt _).symm
  refine wp_g (n := 2) (pc' := 2) (L' := [some (.ref (1000000 + 2 * n + 1)), some (.int (iI (j : Int)))]) (st' := [.ref (1000000 + 2 * n + 1), .int (iI (j : Int))]) rfl ?_
  refine wp_alT rfl hn ?_
  refine wp_cs (As := [.int (iI (j : Int)), .int (iI ((txI n).length : Int))]) (rest := []) (M' := 317) rfl rfl rfl rfl (Nat.le_of_ble_eq_true rfl) (Nat.le_of_ble_eq_true rfl) (c_chk hE (by omega) (by omega) (by omega)) (fun r1 h1 q => ?_)
  obtain ⟨rfl, rfl⟩ := q
  refine wp_g (n := 2) (pc' := 8) (L' := [some (.ref (1000000 + 2 * n + 1)), some (.int (iI (j : Int)))]) (st' := [.int (iI (j : Int)), .ref (1000000 + 2 * n + 1)]) rfl ?_
  refine wp_bldT rfl hn hj ?_
  refine wp_g (n := 3) (pc' := 14) (L' := [some (.ref (1000000 + 2 * n + 1)), some (.int (iI (j : Int)))]) (st' := [.int (((txI n).getD j 0 &&& (Int16.ofInt 255).toInt32).toUInt32 % 65536).toInt32]) rfl ?_
  have e1 : (((txI n).getD j 0 &&& (Int16.ofInt 255).toInt32).toUInt32 % 65536).toInt32 = iI ((tx n).getD j 0) := by
    rw [tx_at hj, e0, chr_D _ (by omega), ← e0]
    exact (Int32.ofInt_toInt _).symm
  rw [e1]
  refine wp_cret rfl rfl ?_ ⟨rfl, rfl⟩
  rw [tx_at hj]
  omega
theorem c_charAt {n j : Nat} (hE : EV E) (hn : n < 27) (hj : j < (txI n).length) : wp E (k + 3) 314 0 (am_entry [.ref (1000000 + 2 * n), .int (iI (j : Int))] 2) [] h (fun r h1 => r = some (.int (iI ((tx n).getD j 0))) ∧ h1 = h) := by
  have h7 := tx_D n hn
  have hz := h7.2.2 j hj
  refine wp_g (n := 1) (pc' := 1) (L' := [some (.ref (1000000 + 2 * n)), some (.int (iI (j : Int)))]) (st' := [.ref (1000000 + 2 * n)]) rfl ?_
  refine wp_cvS (As := []) (rest := []) (M' := 316) rfl rfl ⟨n, hn, rfl⟩ rfl rfl rfl (Nat.le_of_ble_eq_true rfl) (Nat.le_of_ble_eq_true rfl) (c_latin hn) (fun r1 h1 q => ?_)
  obtain ⟨rfl, rfl⟩ := q
  refine wp_g (n := 2) (pc' := 8) (L' := [some (.ref (1000000 + 2 * n)), some (.int (iI (j : Int)))]) (st' := [.ref (1000000 + 2 * n)]) rfl ?_
  refine wp_gf9 rfl rfl hn ?_
  refine wp_g (n := 1) (pc' := 12) (L' := [some (.ref (1000000 + 2 * n)), some (.int (iI (j : Int)))]) (st' := [.int (iI (j : Int)), .ref (1000000 + 2 * n + 1)]) rfl ?_
  refine wp_cs (As := [.ref (1000000 + 2 * n + 1), .int (iI (j : Int))]) (rest := []) (M' := 318) rfl rfl rfl rfl (Nat.le_of_ble_eq_true rfl) (Nat.le_of_ble_eq_true rfl) (c_chr hE hn hj) (fun r1 h1 q => ?_)
  obtain ⟨rfl, rfl⟩ := q
  refine wp_cret rfl rfl ?_ ⟨rfl, rfl⟩
  rw [tx_at hj]
  omega
end TX
section TX2
variable {E : am_E} {k : Nat} {m : MM} {γ : GM} {t : am_H} {Q : Int → MM → GM → am_H → Prop}
theorem S_length {n : Nat} (hn : n < 27) (hQ : Q ((tx n).length : Int) m γ t) : TI E (k + 1) 313 [.ref (1000000 + 2 * n)] m γ t Q := fun h S => by
  have h7 := tx_D n hn
  exact (c_length hn).mono (fun r h1 q => ⟨_, m, γ, t, q.1, by rw [tx_len]; omega, by rw [q.2]; exact S, hQ⟩)
theorem S_charAt {n j : Nat} (hE : EV E) (hn : n < 27) (hj : j < (tx n).length) (hQ : 0 ≤ (tx n).getD j 0 ∧ (tx n).getD j 0 < 128 → Q ((tx n).getD j 0) m γ t) : TI E (k + 3) 314 [.ref (1000000 + 2 * n), .int (iI (j : Int))] m γ t Q := fun h S => by
  rw [tx_len] at hj
  have hz := (tx_D n hn).2.2 j hj
  rw [← tx_at hj] at hz
  exact (c_charAt hE hn hj).mono (fun r h1 q => ⟨_, m, γ, t, q.1, by omega, by rw [q.2]; exact S, hQ hz⟩)
end TX2
