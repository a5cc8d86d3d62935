/-! ===== the law's loop ===== -/
def scr (E : am_E) (n : Nat) : Int := (E.1.2 n).toInt
def scO (E : am_E) (z : Int) : Prop := (0 ≤ z ∧ z < (E.1.1 : Int)) ∧ E.1.1 ≤ 3072
theorem wp_scr {E : am_E} {k M pc : Nat} {L : am_L} {r : List Value} {h : am_H} {Q : Option Value → am_H → Prop} {z : Int} (hc : am_code M pc = some .iaload) (hz : scO E z) (w : wp E k M (pc + 1) L (.int (iI (scr E z.toNat)) :: r) h Q) : wp E k M pc L (.int (iI z) :: .ref 1002000 :: r) h Q := by
  obtain ⟨⟨h0, h1⟩, h2⟩ := hz
  have e1 : (iI z).toNatClampNeg = z.toNat := iI_nat h0 (by omega)
  have e2 : am_inb (iI z) E.1.1 = true := by
    unfold am_inb
    rw [e1]
    have : ¬ (iI z < 0) := by
      rw [show (0 : Int32) = iI 0 from rfl, iI_lt (by omega) (by omega) (by omega) (by omega)]
      omega
    rw [decide_eq_false this, decide_eq_false (show ¬ E.1.1 ≤ z.toNat by omega)]
    rfl
  refine wp_s (q := (pc + 1, L, .int (E.1.2 z.toNat) :: r, h)) hc ?_ ?_
  · show am_rdi (some (.int, E.1.1, .inl E.1.2)) (iI z) pc L r h = _
    unfold am_rdi
    simp only [e2, e1, cond_true]
  · have : iI (scr E z.toNat) = E.1.2 z.toNat := Int32.ofInt_toInt _
    rw [this] at w
    exact w
theorem wp_scl {E : am_E} {k M pc : Nat} {L : am_L} {r : List Value} {h : am_H} {Q : Option Value → am_H → Prop} (hc : am_code M pc = some .arraylength) (w : wp E k M (pc + 1) L (.int (iI (E.1.1 : Int)) :: r) h Q) : wp E k M pc L (.ref 1002000 :: r) h Q := by
  refine wp_s (q := (pc + 1, L, .int (Int32.ofNat E.1.1) :: r, h)) hc rfl ?_
  rw [show Int32.ofNat E.1.1 = iI (E.1.1 : Int) from Int32.ofInt_eq_ofNat.symm]
  exact w
def hd_L_law_18 (E : am_E) (k : Nat) (y3 : Int) (m : MM) (γ : GM) (t : am_H) (Q : Int → MM → GM → am_H → Prop) : Prop := TT (pI Q) E (k + 1) 322 18 [some (.ref 1002000), some (.ref 0), some (.ref 158), some (.int (iI y3))] [] m γ t
def hd_L_law_236 (E : am_E) (k : Nat) (y3 : Int) (m : MM) (γ : GM) (t : am_H) (Q : Int → MM → GM → am_H → Prop) : Prop := TT (pI Q) E (k + 1) 322 236 [some (.ref 1002000), some (.ref 0), some (.ref 158), some (.int (iI y3))] [] m γ t
def hd_L_law_299 (E : am_E) (k : Nat) (y3 : Int) (m : MM) (γ : GM) (t : am_H) (Q : Int → MM → GM → am_H → Prop) : Prop := TT (pI Q) E (k + 1) 322 299 [some (.ref 1002000), some (.ref 0), some (.ref 158), some (.int (iI y3))] [] m γ t
def hd_L_law_322 (E : am_E) (k : Nat) (y3 : Int) (m : MM) (γ : GM) (t : am_H) (Q : Int → MM → GM → am_H → Prop) : Prop := TT (pI Q) E (k + 1) 322 322 [some (.ref 1002000), some (.ref 0), some (.ref 158), some (.int (iI y3))] [] m γ t
def hd_L_law_345 (E : am_E) (k : Nat) (y3 : Int) (m : MM) (γ : GM) (t : am_H) (Q : Int → MM → GM → am_H → Prop) : Prop := TT (pI Q) E (k + 1) 322 345 [some (.ref 1002000), some (.ref 0), some (.ref 158), some (.int (iI y3))] [] m γ t
def hd_L_law_368 (E : am_E) (k : Nat) (y3 : Int) (m : MM) (γ : GM) (t : am_H) (Q : Int → MM → GM → am_H → Prop) : Prop := TT (pI Q) E (k + 1) 322 368 [some (.ref 1002000), some (.ref 0), some (.ref 158), some (.int (iI y3))] [] m γ t
def hd_L_law_391 (E : am_E) (k : Nat) (y3 : Int) (m : MM) (γ : GM) (t : am_H) (Q : Int → MM → GM → am_H → Prop) : Prop := TT (pI Q) E (k + 1) 322 391 [some (.ref 1002000), some (.ref 0), some (.ref 158), some (.int (iI y3))] [] m γ t
def hd_L_law_424 (E : am_E) (k : Nat) (y3 : Int) (m : MM) (γ : GM) (t : am_H) (Q : Int → MM → GM → am_H → Prop) : Prop := TT (pI Q) E (k + 1) 322 424 [some (.ref 1002000), some (.ref 0), some (.ref 158), some (.int (iI y3))] [] m γ t
def hd_L_law_457 (E : am_E) (k : Nat) (y3 : Int) (m : MM) (γ : GM) (t : am_H) (Q : Int → MM → GM → am_H → Prop) : Prop := TT (pI Q) E (k + 1) 322 457 [some (.ref 1002000), some (.ref 0), some (.ref 158), some (.int (iI y3))] [] m γ t
def hd_L_law_500 (E : am_E) (k : Nat) (y3 : Int) (m : MM) (γ : GM) (t : am_H) (Q : Int → MM → GM → am_H → Prop) : Prop := TT (pI Q) E (k + 1) 322 500 [some (.ref 1002000), some (.ref 0), some (.ref 158), some (.int (iI y3))] [] m γ t
def hd_L_law_543 (E : am_E) (k : Nat) (y3 : Int) (m : MM) (γ : GM) (t : am_H) (Q : Int → MM → GM → am_H → Prop) : Prop := TT (pI Q) E (k + 1) 322 543 [some (.ref 1002000), some (.ref 0), some (.ref 158), some (.int (iI y3))] [] m γ t
def hd_L_law_586 (E : am_E) (k : Nat) (y3 : Int) (m : MM) (γ : GM) (t : am_H) (Q : Int → MM → GM → am_H → Prop) : Prop := TT (pI Q) E (k + 1) 322 586 [some (.ref 1002000), some (.ref 0), some (.ref 158), some (.int (iI y3))] [] m γ t
def hd_L_law_629 (E : am_E) (k : Nat) (y3 : Int) (m : MM) (γ : GM) (t : am_H) (Q : Int → MM → GM → am_H → Prop) : Prop := TT (pI Q) E (k + 1) 322 629 [some (.ref 1002000), some (.ref 0), some (.ref 158), some (.int (iI y3))] [] m γ t
def hd_L_law_672 (E : am_E) (k : Nat) (y3 : Int) (m : MM) (γ : GM) (t : am_H) (Q : Int → MM → GM → am_H → Prop) : Prop := TT (pI Q) E (k + 1) 322 672 [some (.ref 1002000), some (.ref 0), some (.ref 158), some (.int (iI y3))] [] m γ t
def hd_L_law_705 (E : am_E) (k : Nat) (y3 : Int) (m : MM) (γ : GM) (t : am_H) (Q : Int → MM → GM → am_H → Prop) : Prop := TT (pI Q) E (k + 1) 322 705 [some (.ref 1002000), some (.ref 0), some (.ref 158), some (.int (iI y3))] [] m γ t
def hd_L_law_748 (E : am_E) (k : Nat) (y3 : Int) (m : MM) (γ : GM) (t : am_H) (Q : Int → MM → GM → am_H → Prop) : Prop := TT (pI Q) E (k + 1) 322 748 [some (.ref 1002000), some (.ref 0), some (.ref 158), some (.int (iI y3))] [] m γ t
def hd_L_law_791 (E : am_E) (k : Nat) (y3 : Int) (m : MM) (γ : GM) (t : am_H) (Q : Int → MM → GM → am_H → Prop) : Prop := TT (pI Q) E (k + 1) 322 791 [some (.ref 1002000), some (.ref 0), some (.ref 158), some (.int (iI y3))] [] m γ t
def hd_L_law_824 (E : am_E) (k : Nat) (y3 : Int) (m : MM) (γ : GM) (t : am_H) (Q : Int → MM → GM → am_H → Prop) : Prop := TT (pI Q) E (k + 1) 322 824 [some (.ref 1002000), some (.ref 0), some (.ref 158), some (.int (iI y3))] [] m γ t
def hd_L_law_857 (E : am_E) (k : Nat) (y3 : Int) (m : MM) (γ : GM) (t : am_H) (Q : Int → MM → GM → am_H → Prop) : Prop := TT (pI Q) E (k + 1) 322 857 [some (.ref 1002000), some (.ref 0), some (.ref 158), some (.int (iI y3))] [] m γ t
def hd_L_law_900 (E : am_E) (k : Nat) (y3 : Int) (m : MM) (γ : GM) (t : am_H) (Q : Int → MM → GM → am_H → Prop) : Prop := TT (pI Q) E (k + 1) 322 900 [some (.ref 1002000), some (.ref 0), some (.ref 158), some (.int (iI y3))] [] m γ t
def hd_L_law_933 (E : am_E) (k : Nat) (y3 : Int) (m : MM) (γ : GM) (t : am_H) (Q : Int → MM → GM → am_H → Prop) : Prop := TT (pI Q) E (k + 1) 322 933 [some (.ref 1002000), some (.ref 0), some (.ref 158), some (.int (iI y3))] [] m γ t
def hd_L_law_976 (E : am_E) (k : Nat) (y3 : Int) (m : MM) (γ : GM) (t : am_H) (Q : Int → MM → GM → am_H → Prop) : Prop := TT (pI Q) E (k + 1) 322 976 [some (.ref 1002000), some (.ref 0), some (.ref 158), some (.int (iI y3))] [] m γ t
def hd_L_law_1019 (E : am_E) (k : Nat) (y3 : Int) (m : MM) (γ : GM) (t : am_H) (Q : Int → MM → GM → am_H → Prop) : Prop := TT (pI Q) E (k + 1) 322 1019 [some (.ref 1002000), some (.ref 0), some (.ref 158), some (.int (iI y3))] [] m γ t
def hd_L_law_1052 (E : am_E) (k : Nat) (y3 : Int) (m : MM) (γ : GM) (t : am_H) (Q : Int → MM → GM → am_H → Prop) : Prop := TT (pI Q) E (k + 1) 322 1052 [some (.ref 1002000), some (.ref 0), some (.ref 158), some (.int (iI y3))] [] m γ t
def hd_L_law_1095 (E : am_E) (k : Nat) (y3 : Int) (m : MM) (γ : GM) (t : am_H) (Q : Int → MM → GM → am_H → Prop) : Prop := TT (pI Q) E (k + 1) 322 1095 [some (.ref 1002000), some (.ref 0), some (.ref 158), some (.int (iI y3))] [] m γ t
def hd_L_law_1138 (E : am_E) (k : Nat) (y3 : Int) (m : MM) (γ : GM) (t : am_H) (Q : Int → MM → GM → am_H → Prop) : Prop := TT (pI Q) E (k + 1) 322 1138 [some (.ref 1002000), some (.ref 0), some (.ref 158), some (.int (iI y3))] [] m γ t
def hd_L_law_1181 (E : am_E) (k : Nat) (y3 : Int) (m : MM) (γ : GM) (t : am_H) (Q : Int → MM → GM → am_H → Prop) : Prop := TT (pI Q) E (k + 1) 322 1181 [some (.ref 1002000), some (.ref 0), some (.ref 158), some (.int (iI y3))] [] m γ t
def hd_L_law_1244 (E : am_E) (k : Nat) (y3 : Int) (m : MM) (γ : GM) (t : am_H) (Q : Int → MM → GM → am_H → Prop) : Prop := TT (pI Q) E (k + 1) 322 1244 [some (.ref 1002000), some (.ref 0), some (.ref 158), some (.int (iI y3))] [] m γ t
def hd_L_law_1277 (E : am_E) (k : Nat) (y3 : Int) (m : MM) (γ : GM) (t : am_H) (Q : Int → MM → GM → am_H → Prop) : Prop := TT (pI Q) E (k + 1) 322 1277 [some (.ref 1002000), some (.ref 0), some (.ref 158), some (.int (iI y3))] [] m γ t
def hd_L_law_1311 (E : am_E) (k : Nat) (y3 : Int) (m : MM) (γ : GM) (t : am_H) (Q : Int → MM → GM → am_H → Prop) : Prop := TT (pI Q) E (k + 1) 322 1311 [some (.ref 1002000), some (.ref 0), some (.ref 158), some (.int (iI y3))] [] m γ t
def hd_L_law_1345 (E : am_E) (k : Nat) (y3 : Int) (m : MM) (γ : GM) (t : am_H) (Q : Int → MM → GM → am_H → Prop) : Prop := TT (pI Q) E (k + 1) 322 1345 [some (.ref 1002000), some (.ref 0), some (.ref 158), some (.int (iI y3))] [] m γ t
def hd_L_law_1369 (E : am_E) (k : Nat) (y3 : Int) (m : MM) (γ : GM) (t : am_H) (Q : Int → MM → GM → am_H → Prop) : Prop := TT (pI Q) E (k + 1) 322 1369 [some (.ref 1002000), some (.ref 0), some (.ref 158), some (.int (iI y3))] [] m γ t
def hd_L_law_1402 (E : am_E) (k : Nat) (y3 : Int) (m : MM) (γ : GM) (t : am_H) (Q : Int → MM → GM → am_H → Prop) : Prop := TT (pI Q) E (k + 1) 322 1402 [some (.ref 1002000), some (.ref 0), some (.ref 158), some (.int (iI y3))] [] m γ t
def hd_L_law_1425 (E : am_E) (k : Nat) (y3 : Int) (m : MM) (γ : GM) (t : am_H) (Q : Int → MM → GM → am_H → Prop) : Prop := TT (pI Q) E (k + 1) 322 1425 [some (.ref 1002000), some (.ref 0), some (.ref 158), some (.int (iI y3))] [] m γ t
def hd_L_law_1448 (E : am_E) (k : Nat) (y3 : Int) (m : MM) (γ : GM) (t : am_H) (Q : Int → MM → GM → am_H → Prop) : Prop := TT (pI Q) E (k + 1) 322 1448 [some (.ref 1002000), some (.ref 0), some (.ref 158), some (.int (iI y3))] [] m γ t
def hd_L_law_1471 (E : am_E) (k : Nat) (y3 : Int) (m : MM) (γ : GM) (t : am_H) (Q : Int → MM → GM → am_H → Prop) : Prop := TT (pI Q) E (k + 1) 322 1471 [some (.ref 1002000), some (.ref 0), some (.ref 158), some (.int (iI y3))] [] m γ t
def hd_L_law_1514 (E : am_E) (k : Nat) (y3 : Int) (m : MM) (γ : GM) (t : am_H) (Q : Int → MM → GM → am_H → Prop) : Prop := TT (pI Q) E (k + 1) 322 1514 [some (.ref 1002000), some (.ref 0), some (.ref 158), some (.int (iI y3))] [] m γ t
def hd_L_law_1557 (E : am_E) (k : Nat) (y3 : Int) (m : MM) (γ : GM) (t : am_H) (Q : Int → MM → GM → am_H → Prop) : Prop := TT (pI Q) E (k + 1) 322 1557 [some (.ref 1002000), some (.ref 0), some (.ref 158), some (.int (iI y3))] [] m γ t
def hd_L_law_1580 (E : am_E) (k : Nat) (y3 : Int) (m : MM) (γ : GM) (t : am_H) (Q : Int → MM → GM → am_H → Prop) : Prop := TT (pI Q) E (k + 1) 322 1580 [some (.ref 1002000), some (.ref 0), some (.ref 158), some (.int (iI y3))] [] m γ t
def hd_L_law_1603 (E : am_E) (k : Nat) (y3 : Int) (m : MM) (γ : GM) (t : am_H) (Q : Int → MM → GM → am_H → Prop) : Prop := TT (pI Q) E (k + 1) 322 1603 [some (.ref 1002000), some (.ref 0), some (.ref 158), some (.int (iI y3))] [] m γ t
def hd_L_law_1626 (E : am_E) (k : Nat) (y3 : Int) (m : MM) (γ : GM) (t : am_H) (Q : Int → MM → GM → am_H → Prop) : Prop := TT (pI Q) E (k + 1) 322 1626 [some (.ref 1002000), some (.ref 0), some (.ref 158), some (.int (iI y3))] [] m γ t
def hd_L_law_1679 (E : am_E) (k : Nat) (y3 : Int) (m : MM) (γ : GM) (t : am_H) (Q : Int → MM → GM → am_H → Prop) : Prop := TT (pI Q) E (k + 1) 322 1679 [some (.ref 1002000), some (.ref 0), some (.ref 158), some (.int (iI y3))] [] m γ t
def hd_L_law_1712 (E : am_E) (k : Nat) (y3 : Int) (m : MM) (γ : GM) (t : am_H) (Q : Int → MM → GM → am_H → Prop) : Prop := TT (pI Q) E (k + 1) 322 1712 [some (.ref 1002000), some (.ref 0), some (.ref 158), some (.int (iI y3))] [] m γ t
def hd_L_law_1745 (E : am_E) (k : Nat) (y3 : Int) (m : MM) (γ : GM) (t : am_H) (Q : Int → MM → GM → am_H → Prop) : Prop := TT (pI Q) E (k + 1) 322 1745 [some (.ref 1002000), some (.ref 0), some (.ref 158), some (.int (iI y3))] [] m γ t
def hd_L_law_1778 (E : am_E) (k : Nat) (y3 : Int) (m : MM) (γ : GM) (t : am_H) (Q : Int → MM → GM → am_H → Prop) : Prop := TT (pI Q) E (k + 1) 322 1778 [some (.ref 1002000), some (.ref 0), some (.ref 158), some (.int (iI y3))] [] m γ t
def hd_L_law_1801 (E : am_E) (k : Nat) (y3 : Int) (m : MM) (γ : GM) (t : am_H) (Q : Int → MM → GM → am_H → Prop) : Prop := TT (pI Q) E (k + 1) 322 1801 [some (.ref 1002000), some (.ref 0), some (.ref 158), some (.int (iI y3))] [] m γ t
def hd_L_law_1814 (E : am_E) (k : Nat) (y3 : Int) (m : MM) (γ : GM) (t : am_H) (Q : Int → MM → GM → am_H → Prop) : Prop := TT (pI Q) E (k + 1) 322 1814 [some (.ref 1002000), some (.ref 0), some (.ref 158), some (.int (iI y3))] [] m γ t
def hd_L_law_1847 (E : am_E) (k : Nat) (y3 : Int) (m : MM) (γ : GM) (t : am_H) (Q : Int → MM → GM → am_H → Prop) : Prop := TT (pI Q) E (k + 1) 322 1847 [some (.ref 1002000), some (.ref 0), some (.ref 158), some (.int (iI y3))] [] m γ t
def hd_L_law_1870 (E : am_E) (k : Nat) (y3 : Int) (m : MM) (γ : GM) (t : am_H) (Q : Int → MM → GM → am_H → Prop) : Prop := TT (pI Q) E (k + 1) 322 1870 [some (.ref 1002000), some (.ref 0), some (.ref 158), some (.int (iI y3))] [] m γ t
abbrev W_L_law_18 (E : am_E) (k : Nat) (y3 : Int) (m : MM) (γ : GM) (t : am_H) (Q : Int → MM → GM → am_H → Prop) : Prop := (rJ ((E.1.1 : Int) - 6) ∧ (((y3 ≤ ((E.1.1 : Int) - 6)) → (scO E y3 ∧ (((bAnd (scr E ((y3).toNat)) 63) = 0 → (hd_L_law_236 E k y3 m γ t Q)) ∧ (¬ (bAnd (scr E ((y3).toNat)) 63) = 0 → (((bAnd (scr E ((y3).toNat)) 63) = 1 → (hd_L_law_299 E k y3 m γ t Q)) ∧ (¬ (bAnd (scr E ((y3).toNat)) 63) = 1 → (((bAnd (scr E ((y3).toNat)) 63) = 2 → (hd_L_law_322 E k y3 m γ t Q)) ∧ (¬ (bAnd (scr E ((y3).toNat)) 63) = 2 → (((bAnd (scr E ((y3).toNat)) 63) = 3 → (hd_L_law_345 E k y3 m γ t Q)) ∧ (¬ (bAnd (scr E ((y3).toNat)) 63) = 3 → (((bAnd (scr E ((y3).toNat)) 63) = 4 → (hd_L_law_368 E k y3 m γ t Q)) ∧ (¬ (bAnd (scr E ((y3).toNat)) 63) = 4 → (((bAnd (scr E ((y3).toNat)) 63) = 5 → (hd_L_law_391 E k y3 m γ t Q)) ∧ (¬ (bAnd (scr E ((y3).toNat)) 63) = 5 → (((bAnd (scr E ((y3).toNat)) 63) = 6 → (hd_L_law_424 E k y3 m γ t Q)) ∧ (¬ (bAnd (scr E ((y3).toNat)) 63) = 6 → (((bAnd (scr E ((y3).toNat)) 63) = 7 → (hd_L_law_457 E k y3 m γ t Q)) ∧ (¬ (bAnd (scr E ((y3).toNat)) 63) = 7 → (((bAnd (scr E ((y3).toNat)) 63) = 8 → (hd_L_law_500 E k y3 m γ t Q)) ∧ (¬ (bAnd (scr E ((y3).toNat)) 63) = 8 → (((bAnd (scr E ((y3).toNat)) 63) = 9 → (hd_L_law_543 E k y3 m γ t Q)) ∧ (¬ (bAnd (scr E ((y3).toNat)) 63) = 9 → (((bAnd (scr E ((y3).toNat)) 63) = 10 → (hd_L_law_586 E k y3 m γ t Q)) ∧ (¬ (bAnd (scr E ((y3).toNat)) 63) = 10 → (((bAnd (scr E ((y3).toNat)) 63) = 11 → (hd_L_law_629 E k y3 m γ t Q)) ∧ (¬ (bAnd (scr E ((y3).toNat)) 63) = 11 → (((bAnd (scr E ((y3).toNat)) 63) = 12 → (hd_L_law_672 E k y3 m γ t Q)) ∧ (¬ (bAnd (scr E ((y3).toNat)) 63) = 12 → (((bAnd (scr E ((y3).toNat)) 63) = 13 → (hd_L_law_705 E k y3 m γ t Q)) ∧ (¬ (bAnd (scr E ((y3).toNat)) 63) = 13 → (((bAnd (scr E ((y3).toNat)) 63) = 14 → (hd_L_law_748 E k y3 m γ t Q)) ∧ (¬ (bAnd (scr E ((y3).toNat)) 63) = 14 → (((bAnd (scr E ((y3).toNat)) 63) = 15 → (hd_L_law_791 E k y3 m γ t Q)) ∧ (¬ (bAnd (scr E ((y3).toNat)) 63) = 15 → (((bAnd (scr E ((y3).toNat)) 63) = 16 → (hd_L_law_824 E k y3 m γ t Q)) ∧ (¬ (bAnd (scr E ((y3).toNat)) 63) = 16 → (((bAnd (scr E ((y3).toNat)) 63) = 17 → (hd_L_law_857 E k y3 m γ t Q)) ∧ (¬ (bAnd (scr E ((y3).toNat)) 63) = 17 → (((bAnd (scr E ((y3).toNat)) 63) = 18 → (hd_L_law_900 E k y3 m γ t Q)) ∧ (¬ (bAnd (scr E ((y3).toNat)) 63) = 18 → (((bAnd (scr E ((y3).toNat)) 63) = 19 → (hd_L_law_933 E k y3 m γ t Q)) ∧ (¬ (bAnd (scr E ((y3).toNat)) 63) = 19 → (((bAnd (scr E ((y3).toNat)) 63) = 20 → (hd_L_law_976 E k y3 m γ t Q)) ∧ (¬ (bAnd (scr E ((y3).toNat)) 63) = 20 → (((bAnd (scr E ((y3).toNat)) 63) = 21 → (hd_L_law_1019 E k y3 m γ t Q)) ∧ (¬ (bAnd (scr E ((y3).toNat)) 63) = 21 → (((bAnd (scr E ((y3).toNat)) 63) = 22 → (hd_L_law_1052 E k y3 m γ t Q)) ∧ (¬ (bAnd (scr E ((y3).toNat)) 63) = 22 → (((bAnd (scr E ((y3).toNat)) 63) = 23 → (hd_L_law_1095 E k y3 m γ t Q)) ∧ (¬ (bAnd (scr E ((y3).toNat)) 63) = 23 → (((bAnd (scr E ((y3).toNat)) 63) = 24 → (hd_L_law_1138 E k y3 m γ t Q)) ∧ (¬ (bAnd (scr E ((y3).toNat)) 63) = 24 → (((bAnd (scr E ((y3).toNat)) 63) = 25 → (hd_L_law_1181 E k y3 m γ t Q)) ∧ (¬ (bAnd (scr E ((y3).toNat)) 63) = 25 → (((bAnd (scr E ((y3).toNat)) 63) = 26 → (hd_L_law_1244 E k y3 m γ t Q)) ∧ (¬ (bAnd (scr E ((y3).toNat)) 63) = 26 → (((bAnd (scr E ((y3).toNat)) 63) = 27 → (hd_L_law_1277 E k y3 m γ t Q)) ∧ (¬ (bAnd (scr E ((y3).toNat)) 63) = 27 → (((bAnd (scr E ((y3).toNat)) 63) = 28 → (hd_L_law_1311 E k y3 m γ t Q)) ∧ (¬ (bAnd (scr E ((y3).toNat)) 63) = 28 → (((bAnd (scr E ((y3).toNat)) 63) = 29 → (hd_L_law_1345 E k y3 m γ t Q)) ∧ (¬ (bAnd (scr E ((y3).toNat)) 63) = 29 → (((bAnd (scr E ((y3).toNat)) 63) = 30 → (hd_L_law_1369 E k y3 m γ t Q)) ∧ (¬ (bAnd (scr E ((y3).toNat)) 63) = 30 → (((bAnd (scr E ((y3).toNat)) 63) = 31 → (hd_L_law_1402 E k y3 m γ t Q)) ∧ (¬ (bAnd (scr E ((y3).toNat)) 63) = 31 → (((bAnd (scr E ((y3).toNat)) 63) = 32 → (hd_L_law_1425 E k y3 m γ t Q)) ∧ (¬ (bAnd (scr E ((y3).toNat)) 63) = 32 → (((bAnd (scr E ((y3).toNat)) 63) = 33 → (hd_L_law_1448 E k y3 m γ t Q)) ∧ (¬ (bAnd (scr E ((y3).toNat)) 63) = 33 → (((bAnd (scr E ((y3).toNat)) 63) = 34 → (hd_L_law_1471 E k y3 m γ t Q)) ∧ (¬ (bAnd (scr E ((y3).toNat)) 63) = 34 → (((bAnd (scr E ((y3).toNat)) 63) = 35 → (hd_L_law_1514 E k y3 m γ t Q)) ∧ (¬ (bAnd (scr E ((y3).toNat)) 63) = 35 → (((bAnd (scr E ((y3).toNat)) 63) = 36 → (hd_L_law_1557 E k y3 m γ t Q)) ∧ (¬ (bAnd (scr E ((y3).toNat)) 63) = 36 → (((bAnd (scr E ((y3).toNat)) 63) = 37 → (hd_L_law_1580 E k y3 m γ t Q)) ∧ (¬ (bAnd (scr E ((y3).toNat)) 63) = 37 → (((bAnd (scr E ((y3).toNat)) 63) = 38 → (hd_L_law_1603 E k y3 m γ t Q)) ∧ (¬ (bAnd (scr E ((y3).toNat)) 63) = 38 → (((bAnd (scr E ((y3).toNat)) 63) = 39 → (hd_L_law_1626 E k y3 m γ t Q)) ∧ (¬ (bAnd (scr E ((y3).toNat)) 63) = 39 → (((bAnd (scr E ((y3).toNat)) 63) = 40 → (hd_L_law_1679 E k y3 m γ t Q)) ∧ (¬ (bAnd (scr E ((y3).toNat)) 63) = 40 → (((bAnd (scr E ((y3).toNat)) 63) = 41 → (hd_L_law_1712 E k y3 m γ t Q)) ∧ (¬ (bAnd (scr E ((y3).toNat)) 63) = 41 → (((bAnd (scr E ((y3).toNat)) 63) = 42 → (hd_L_law_1745 E k y3 m γ t Q)) ∧ (¬ (bAnd (scr E ((y3).toNat)) 63) = 42 → (((bAnd (scr E ((y3).toNat)) 63) = 43 → (hd_L_law_1778 E k y3 m γ t Q)) ∧ (¬ (bAnd (scr E ((y3).toNat)) 63) = 43 → (((bAnd (scr E ((y3).toNat)) 63) = 44 → (hd_L_law_1801 E k y3 m γ t Q)) ∧ (¬ (bAnd (scr E ((y3).toNat)) 63) = 44 → (((bAnd (scr E ((y3).toNat)) 63) = 45 → (hd_L_law_1814 E k y3 m γ t Q)) ∧ (¬ (bAnd (scr E ((y3).toNat)) 63) = 45 → (((bAnd (scr E ((y3).toNat)) 63) = 46 → (hd_L_law_1847 E k y3 m γ t Q)) ∧ (¬ (bAnd (scr E ((y3).toNat)) 63) = 46 → (hd_L_law_1870 E k y3 m γ t Q))))))))))))))))))))))))))))))))))))))))))))))))))))))))))))))))))))))))))))))))))))))))))))))))) ∧ (¬ (y3 ≤ ((E.1.1 : Int) - 6)) → (Q 1 m γ t))))
abbrev W_L_law_236 (E : am_E) (k : Nat) (y3 : Int) (m : MM) (γ : GM) (t : am_H) (Q : Int → MM → GM → am_H → Prop) : Prop := (scO E (y3 + 1) ∧ (scO E (y3 + 2) ∧ (scO E (y3 + 3) ∧ (scO E (y3 + 4) ∧ (scO E (y3 + 5) ∧ (TI E k 129 [.ref 0, .int (iI (scr E (((y3 + 1)).toNat))), .int (iI (scr E (((y3 + 2)).toNat))), .int (iI (scr E (((y3 + 3)).toNat))), .int (iI (scr E (((y3 + 4)).toNat))), .int (iI (scr E (((y3 + 5)).toNat)))] m γ t (fun v11 m11 γ11 t11 => (TI E k 220 [.ref 158, .int (iI (scr E (((y3 + 1)).toNat))), .int (iI (scr E (((y3 + 2)).toNat))), .int (iI (scr E (((y3 + 3)).toNat))), .int (iI (scr E (((y3 + 4)).toNat))), .int (iI (scr E (((y3 + 5)).toNat)))] m11 γ11 t11 (fun v17 m17 γ17 t17 => (((v11 = v17) → (hd_L_law_1870 E k y3 m17 γ17 t17 Q)) ∧ (¬ (v11 = v17) → (Q 0 m17 γ17 t17))))))))))))
abbrev W_L_law_299 (E : am_E) (k : Nat) (y3 : Int) (m : MM) (γ : GM) (t : am_H) (Q : Int → MM → GM → am_H → Prop) : Prop := (scO E (y3 + 1) ∧ (TI E k 130 [.ref 0, .int (iI (scr E (((y3 + 1)).toNat)))] m γ t (fun v3 m3 γ3 t3 => (TI E k 221 [.ref 158, .int (iI (scr E (((y3 + 1)).toNat)))] m3 γ3 t3 (fun v5 m5 γ5 t5 => (((v3 = v5) → (hd_L_law_1870 E k y3 m5 γ5 t5 Q)) ∧ (¬ (v3 = v5) → (Q 0 m5 γ5 t5))))))))
abbrev W_L_law_322 (E : am_E) (k : Nat) (y3 : Int) (m : MM) (γ : GM) (t : am_H) (Q : Int → MM → GM → am_H → Prop) : Prop := (scO E (y3 + 1) ∧ (TI E k 131 [.ref 0, .int (iI (scr E (((y3 + 1)).toNat)))] m γ t (fun v3 m3 γ3 t3 => (TI E k 232 [.ref 158, .int (iI (scr E (((y3 + 1)).toNat)))] m3 γ3 t3 (fun v5 m5 γ5 t5 => (((v3 = v5) → (hd_L_law_1870 E k y3 m5 γ5 t5 Q)) ∧ (¬ (v3 = v5) → (Q 0 m5 γ5 t5))))))))
abbrev W_L_law_345 (E : am_E) (k : Nat) (y3 : Int) (m : MM) (γ : GM) (t : am_H) (Q : Int → MM → GM → am_H → Prop) : Prop := (scO E (y3 + 1) ∧ (TI E k 132 [.ref 0, .int (iI (scr E (((y3 + 1)).toNat)))] m γ t (fun v3 m3 γ3 t3 => (TI E k 233 [.ref 158, .int (iI (scr E (((y3 + 1)).toNat)))] m3 γ3 t3 (fun v5 m5 γ5 t5 => (((v3 = v5) → (hd_L_law_1870 E k y3 m5 γ5 t5 Q)) ∧ (¬ (v3 = v5) → (Q 0 m5 γ5 t5))))))))
abbrev W_L_law_368 (E : am_E) (k : Nat) (y3 : Int) (m : MM) (γ : GM) (t : am_H) (Q : Int → MM → GM → am_H → Prop) : Prop := (scO E (y3 + 1) ∧ (TI E k 133 [.ref 0, .int (iI (scr E (((y3 + 1)).toNat)))] m γ t (fun v3 m3 γ3 t3 => (TI E k 234 [.ref 158, .int (iI (scr E (((y3 + 1)).toNat)))] m3 γ3 t3 (fun v5 m5 γ5 t5 => (((v3 = v5) → (hd_L_law_1870 E k y3 m5 γ5 t5 Q)) ∧ (¬ (v3 = v5) → (Q 0 m5 γ5 t5))))))))
abbrev W_L_law_391 (E : am_E) (k : Nat) (y3 : Int) (m : MM) (γ : GM) (t : am_H) (Q : Int → MM → GM → am_H → Prop) : Prop := (scO E (y3 + 1) ∧ (scO E (y3 + 2) ∧ (TI E k 134 [.ref 0, .int (iI (scr E (((y3 + 1)).toNat))), .int (iI (scr E (((y3 + 2)).toNat)))] m γ t (fun v5 m5 γ5 t5 => (TI E k 235 [.ref 158, .int (iI (scr E (((y3 + 1)).toNat))), .int (iI (scr E (((y3 + 2)).toNat)))] m5 γ5 t5 (fun v8 m8 γ8 t8 => (((v5 = v8) → (hd_L_law_1870 E k y3 m8 γ8 t8 Q)) ∧ (¬ (v5 = v8) → (Q 0 m8 γ8 t8)))))))))
abbrev W_L_law_424 (E : am_E) (k : Nat) (y3 : Int) (m : MM) (γ : GM) (t : am_H) (Q : Int → MM → GM → am_H → Prop) : Prop := (scO E (y3 + 1) ∧ (scO E (y3 + 2) ∧ (TI E k 135 [.ref 0, .int (iI (scr E (((y3 + 1)).toNat))), .int (iI (scr E (((y3 + 2)).toNat)))] m γ t (fun v5 m5 γ5 t5 => (TI E k 236 [.ref 158, .int (iI (scr E (((y3 + 1)).toNat))), .int (iI (scr E (((y3 + 2)).toNat)))] m5 γ5 t5 (fun v8 m8 γ8 t8 => (((v5 = v8) → (hd_L_law_1870 E k y3 m8 γ8 t8 Q)) ∧ (¬ (v5 = v8) → (Q 0 m8 γ8 t8)))))))))
abbrev W_L_law_457 (E : am_E) (k : Nat) (y3 : Int) (m : MM) (γ : GM) (t : am_H) (Q : Int → MM → GM → am_H → Prop) : Prop := (scO E (y3 + 1) ∧ (scO E (y3 + 2) ∧ (scO E (y3 + 3) ∧ (TI E k 136 [.ref 0, .int (iI (scr E (((y3 + 1)).toNat))), .int (iI (scr E (((y3 + 2)).toNat))), .int (iI (scr E (((y3 + 3)).toNat)))] m γ t (fun v7 m7 γ7 t7 => (TI E k 237 [.ref 158, .int (iI (scr E (((y3 + 1)).toNat))), .int (iI (scr E (((y3 + 2)).toNat))), .int (iI (scr E (((y3 + 3)).toNat)))] m7 γ7 t7 (fun v11 m11 γ11 t11 => (((v7 = v11) → (hd_L_law_1870 E k y3 m11 γ11 t11 Q)) ∧ (¬ (v7 = v11) → (Q 0 m11 γ11 t11))))))))))
abbrev W_L_law_500 (E : am_E) (k : Nat) (y3 : Int) (m : MM) (γ : GM) (t : am_H) (Q : Int → MM → GM → am_H → Prop) : Prop := (scO E (y3 + 1) ∧ (scO E (y3 + 2) ∧ (scO E (y3 + 3) ∧ (TI E k 137 [.ref 0, .int (iI (scr E (((y3 + 1)).toNat))), .int (iI (scr E (((y3 + 2)).toNat))), .int (iI (scr E (((y3 + 3)).toNat)))] m γ t (fun v7 m7 γ7 t7 => (TI E k 238 [.ref 158, .int (iI (scr E (((y3 + 1)).toNat))), .int (iI (scr E (((y3 + 2)).toNat))), .int (iI (scr E (((y3 + 3)).toNat)))] m7 γ7 t7 (fun v11 m11 γ11 t11 => (((v7 = v11) → (hd_L_law_1870 E k y3 m11 γ11 t11 Q)) ∧ (¬ (v7 = v11) → (Q 0 m11 γ11 t11))))))))))
abbrev W_L_law_543 (E : am_E) (k : Nat) (y3 : Int) (m : MM) (γ : GM) (t : am_H) (Q : Int → MM → GM → am_H → Prop) : Prop := (scO E (y3 + 1) ∧ (scO E (y3 + 2) ∧ (scO E (y3 + 3) ∧ (TI E k 138 [.ref 0, .int (iI (scr E (((y3 + 1)).toNat))), .int (iI (scr E (((y3 + 2)).toNat))), .int (iI (scr E (((y3 + 3)).toNat)))] m γ t (fun v7 m7 γ7 t7 => (TI E k 239 [.ref 158, .int (iI (scr E (((y3 + 1)).toNat))), .int (iI (scr E (((y3 + 2)).toNat))), .int (iI (scr E (((y3 + 3)).toNat)))] m7 γ7 t7 (fun v11 m11 γ11 t11 => (((v7 = v11) → (hd_L_law_1870 E k y3 m11 γ11 t11 Q)) ∧ (¬ (v7 = v11) → (Q 0 m11 γ11 t11))))))))))
abbrev W_L_law_586 (E : am_E) (k : Nat) (y3 : Int) (m : MM) (γ : GM) (t : am_H) (Q : Int → MM → GM → am_H → Prop) : Prop := (scO E (y3 + 1) ∧ (scO E (y3 + 2) ∧ (scO E (y3 + 3) ∧ (TI E k 139 [.ref 0, .int (iI (scr E (((y3 + 1)).toNat))), .int (iI (scr E (((y3 + 2)).toNat))), .int (iI (scr E (((y3 + 3)).toNat)))] m γ t (fun v7 m7 γ7 t7 => (TI E k 240 [.ref 158, .int (iI (scr E (((y3 + 1)).toNat))), .int (iI (scr E (((y3 + 2)).toNat))), .int (iI (scr E (((y3 + 3)).toNat)))] m7 γ7 t7 (fun v11 m11 γ11 t11 => (((v7 = v11) → (hd_L_law_1870 E k y3 m11 γ11 t11 Q)) ∧ (¬ (v7 = v11) → (Q 0 m11 γ11 t11))))))))))
abbrev W_L_law_629 (E : am_E) (k : Nat) (y3 : Int) (m : MM) (γ : GM) (t : am_H) (Q : Int → MM → GM → am_H → Prop) : Prop := (scO E (y3 + 1) ∧ (scO E (y3 + 2) ∧ (scO E (y3 + 3) ∧ (TI E k 140 [.ref 0, .int (iI (scr E (((y3 + 1)).toNat))), .int (iI (scr E (((y3 + 2)).toNat))), .int (iI (scr E (((y3 + 3)).toNat)))] m γ t (fun v7 m7 γ7 t7 => (TI E k 241 [.ref 158, .int (iI (scr E (((y3 + 1)).toNat))), .int (iI (scr E (((y3 + 2)).toNat))), .int (iI (scr E (((y3 + 3)).toNat)))] m7 γ7 t7 (fun v11 m11 γ11 t11 => (((v7 = v11) → (hd_L_law_1870 E k y3 m11 γ11 t11 Q)) ∧ (¬ (v7 = v11) → (Q 0 m11 γ11 t11))))))))))
abbrev W_L_law_672 (E : am_E) (k : Nat) (y3 : Int) (m : MM) (γ : GM) (t : am_H) (Q : Int → MM → GM → am_H → Prop) : Prop := (scO E (y3 + 1) ∧ (scO E (y3 + 2) ∧ (TI E k 141 [.ref 0, .int (iI (scr E (((y3 + 1)).toNat))), .int (iI (scr E (((y3 + 2)).toNat)))] m γ t (fun v5 m5 γ5 t5 => (TI E k 242 [.ref 158, .int (iI (scr E (((y3 + 1)).toNat))), .int (iI (scr E (((y3 + 2)).toNat)))] m5 γ5 t5 (fun v8 m8 γ8 t8 => (((v5 = v8) → (hd_L_law_1870 E k y3 m8 γ8 t8 Q)) ∧ (¬ (v5 = v8) → (Q 0 m8 γ8 t8)))))))))
abbrev W_L_law_705 (E : am_E) (k : Nat) (y3 : Int) (m : MM) (γ : GM) (t : am_H) (Q : Int → MM → GM → am_H → Prop) : Prop := (scO E (y3 + 1) ∧ (scO E (y3 + 2) ∧ (scO E (y3 + 3) ∧ (TI E k 142 [.ref 0, .int (iI (scr E (((y3 + 1)).toNat))), .int (iI (scr E (((y3 + 2)).toNat))), .int (iI (scr E (((y3 + 3)).toNat)))] m γ t (fun v7 m7 γ7 t7 => (TI E k 245 [.ref 158, .int (iI (scr E (((y3 + 1)).toNat))), .int (iI (scr E (((y3 + 2)).toNat))), .int (iI (scr E (((y3 + 3)).toNat)))] m7 γ7 t7 (fun v11 m11 γ11 t11 => (((v7 = v11) → (hd_L_law_1870 E k y3 m11 γ11 t11 Q)) ∧ (¬ (v7 = v11) → (Q 0 m11 γ11 t11))))))))))
abbrev W_L_law_748 (E : am_E) (k : Nat) (y3 : Int) (m : MM) (γ : GM) (t : am_H) (Q : Int → MM → GM → am_H → Prop) : Prop := (scO E (y3 + 1) ∧ (scO E (y3 + 2) ∧ (scO E (y3 + 3) ∧ (TI E k 143 [.ref 0, .int (iI (scr E (((y3 + 1)).toNat))), .int (iI (scr E (((y3 + 2)).toNat))), .int (iI (scr E (((y3 + 3)).toNat)))] m γ t (fun v7 m7 γ7 t7 => (TI E k 246 [.ref 158, .int (iI (scr E (((y3 + 1)).toNat))), .int (iI (scr E (((y3 + 2)).toNat))), .int (iI (scr E (((y3 + 3)).toNat)))] m7 γ7 t7 (fun v11 m11 γ11 t11 => (((v7 = v11) → (hd_L_law_1870 E k y3 m11 γ11 t11 Q)) ∧ (¬ (v7 = v11) → (Q 0 m11 γ11 t11))))))))))
abbrev W_L_law_791 (E : am_E) (k : Nat) (y3 : Int) (m : MM) (γ : GM) (t : am_H) (Q : Int → MM → GM → am_H → Prop) : Prop := (scO E (y3 + 1) ∧ (scO E (y3 + 2) ∧ (TI E k 144 [.ref 0, .int (iI (scr E (((y3 + 1)).toNat))), .int (iI (scr E (((y3 + 2)).toNat)))] m γ t (fun v5 m5 γ5 t5 => (TI E k 247 [.ref 158, .int (iI (scr E (((y3 + 1)).toNat))), .int (iI (scr E (((y3 + 2)).toNat)))] m5 γ5 t5 (fun v8 m8 γ8 t8 => (((v5 = v8) → (hd_L_law_1870 E k y3 m8 γ8 t8 Q)) ∧ (¬ (v5 = v8) → (Q 0 m8 γ8 t8)))))))))
abbrev W_L_law_824 (E : am_E) (k : Nat) (y3 : Int) (m : MM) (γ : GM) (t : am_H) (Q : Int → MM → GM → am_H → Prop) : Prop := (scO E (y3 + 1) ∧ (scO E (y3 + 2) ∧ (TI E k 145 [.ref 0, .int (iI (scr E (((y3 + 1)).toNat))), .int (iI (scr E (((y3 + 2)).toNat)))] m γ t (fun v5 m5 γ5 t5 => (TI E k 249 [.ref 158, .int (iI (scr E (((y3 + 1)).toNat))), .int (iI (scr E (((y3 + 2)).toNat)))] m5 γ5 t5 (fun v8 m8 γ8 t8 => (((v5 = v8) → (hd_L_law_1870 E k y3 m8 γ8 t8 Q)) ∧ (¬ (v5 = v8) → (Q 0 m8 γ8 t8)))))))))
abbrev W_L_law_857 (E : am_E) (k : Nat) (y3 : Int) (m : MM) (γ : GM) (t : am_H) (Q : Int → MM → GM → am_H → Prop) : Prop := (scO E (y3 + 1) ∧ (scO E (y3 + 2) ∧ (scO E (y3 + 3) ∧ (TI E k 146 [.ref 0, .int (iI (scr E (((y3 + 1)).toNat))), .int (iI (scr E (((y3 + 2)).toNat))), .int (iI (scr E (((y3 + 3)).toNat)))] m γ t (fun v7 m7 γ7 t7 => (TI E k 250 [.ref 158, .int (iI (scr E (((y3 + 1)).toNat))), .int (iI (scr E (((y3 + 2)).toNat))), .int (iI (scr E (((y3 + 3)).toNat)))] m7 γ7 t7 (fun v11 m11 γ11 t11 => (((v7 = v11) → (hd_L_law_1870 E k y3 m11 γ11 t11 Q)) ∧ (¬ (v7 = v11) → (Q 0 m11 γ11 t11))))))))))
abbrev W_L_law_900 (E : am_E) (k : Nat) (y3 : Int) (m : MM) (γ : GM) (t : am_H) (Q : Int → MM → GM → am_H → Prop) : Prop := (scO E (y3 + 1) ∧ (scO E (y3 + 2) ∧ (TI E k 147 [.ref 0, .int (iI (scr E (((y3 + 1)).toNat))), .int (iI (scr E (((y3 + 2)).toNat)))] m γ t (fun v5 m5 γ5 t5 => (TI E k 252 [.ref 158, .int (iI (scr E (((y3 + 1)).toNat))), .int (iI (scr E (((y3 + 2)).toNat)))] m5 γ5 t5 (fun v8 m8 γ8 t8 => (((v5 = v8) → (hd_L_law_1870 E k y3 m8 γ8 t8 Q)) ∧ (¬ (v5 = v8) → (Q 0 m8 γ8 t8)))))))))
abbrev W_L_law_933 (E : am_E) (k : Nat) (y3 : Int) (m : MM) (γ : GM) (t : am_H) (Q : Int → MM → GM → am_H → Prop) : Prop := (scO E (y3 + 1) ∧ (scO E (y3 + 2) ∧ (scO E (y3 + 3) ∧ (TI E k 148 [.ref 0, .int (iI (scr E (((y3 + 1)).toNat))), .int (iI (scr E (((y3 + 2)).toNat))), .int (iI (scr E (((y3 + 3)).toNat)))] m γ t (fun v7 m7 γ7 t7 => (TI E k 253 [.ref 158, .int (iI (scr E (((y3 + 1)).toNat))), .int (iI (scr E (((y3 + 2)).toNat))), .int (iI (scr E (((y3 + 3)).toNat)))] m7 γ7 t7 (fun v11 m11 γ11 t11 => (((v7 = v11) → (hd_L_law_1870 E k y3 m11 γ11 t11 Q)) ∧ (¬ (v7 = v11) → (Q 0 m11 γ11 t11))))))))))
abbrev W_L_law_976 (E : am_E) (k : Nat) (y3 : Int) (m : MM) (γ : GM) (t : am_H) (Q : Int → MM → GM → am_H → Prop) : Prop := (scO E (y3 + 1) ∧ (scO E (y3 + 2) ∧ (scO E (y3 + 3) ∧ (TI E k 149 [.ref 0, .int (iI (scr E (((y3 + 1)).toNat))), .int (iI (scr E (((y3 + 2)).toNat))), .int (iI (scr E (((y3 + 3)).toNat)))] m γ t (fun v7 m7 γ7 t7 => (TI E k 257 [.ref 158, .int (iI (scr E (((y3 + 1)).toNat))), .int (iI (scr E (((y3 + 2)).toNat))), .int (iI (scr E (((y3 + 3)).toNat)))] m7 γ7 t7 (fun v11 m11 γ11 t11 => (((v7 = v11) → (hd_L_law_1870 E k y3 m11 γ11 t11 Q)) ∧ (¬ (v7 = v11) → (Q 0 m11 γ11 t11))))))))))
abbrev W_L_law_1019 (E : am_E) (k : Nat) (y3 : Int) (m : MM) (γ : GM) (t : am_H) (Q : Int → MM → GM → am_H → Prop) : Prop := (scO E (y3 + 1) ∧ (scO E (y3 + 2) ∧ (TI E k 150 [.ref 0, .int (iI (scr E (((y3 + 1)).toNat))), .int (iI (scr E (((y3 + 2)).toNat)))] m γ t (fun v5 m5 γ5 t5 => (TI E k 258 [.ref 158, .int (iI (scr E (((y3 + 1)).toNat))), .int (iI (scr E (((y3 + 2)).toNat)))] m5 γ5 t5 (fun v8 m8 γ8 t8 => (((v5 = v8) → (hd_L_law_1870 E k y3 m8 γ8 t8 Q)) ∧ (¬ (v5 = v8) → (Q 0 m8 γ8 t8)))))))))
abbrev W_L_law_1052 (E : am_E) (k : Nat) (y3 : Int) (m : MM) (γ : GM) (t : am_H) (Q : Int → MM → GM → am_H → Prop) : Prop := (scO E (y3 + 1) ∧ (scO E (y3 + 2) ∧ (scO E (y3 + 3) ∧ (TI E k 151 [.ref 0, .int (iI (scr E (((y3 + 1)).toNat))), .int (iI (scr E (((y3 + 2)).toNat))), .int (iI (scr E (((y3 + 3)).toNat)))] m γ t (fun v7 m7 γ7 t7 => (TI E k 261 [.ref 158, .int (iI (scr E (((y3 + 1)).toNat))), .int (iI (scr E (((y3 + 2)).toNat))), .int (iI (scr E (((y3 + 3)).toNat)))] m7 γ7 t7 (fun v11 m11 γ11 t11 => (((v7 = v11) → (hd_L_law_1870 E k y3 m11 γ11 t11 Q)) ∧ (¬ (v7 = v11) → (Q 0 m11 γ11 t11))))))))))
abbrev W_L_law_1095 (E : am_E) (k : Nat) (y3 : Int) (m : MM) (γ : GM) (t : am_H) (Q : Int → MM → GM → am_H → Prop) : Prop := (scO E (y3 + 1) ∧ (scO E (y3 + 2) ∧ (scO E (y3 + 3) ∧ (TI E k 152 [.ref 0, .int (iI (scr E (((y3 + 1)).toNat))), .int (iI (scr E (((y3 + 2)).toNat))), .int (iI (scr E (((y3 + 3)).toNat)))] m γ t (fun v7 m7 γ7 t7 => (TI E k 262 [.ref 158, .int (iI (scr E (((y3 + 1)).toNat))), .int (iI (scr E (((y3 + 2)).toNat))), .int (iI (scr E (((y3 + 3)).toNat)))] m7 γ7 t7 (fun v11 m11 γ11 t11 => (((v7 = v11) → (hd_L_law_1870 E k y3 m11 γ11 t11 Q)) ∧ (¬ (v7 = v11) → (Q 0 m11 γ11 t11))))))))))
abbrev W_L_law_1138 (E : am_E) (k : Nat) (y3 : Int) (m : MM) (γ : GM) (t : am_H) (Q : Int → MM → GM → am_H → Prop) : Prop := (scO E (y3 + 1) ∧ (scO E (y3 + 2) ∧ (scO E (y3 + 3) ∧ (TI E k 153 [.ref 0, .int (iI (scr E (((y3 + 1)).toNat))), .int (iI (scr E (((y3 + 2)).toNat))), .int (iI (scr E (((y3 + 3)).toNat)))] m γ t (fun v7 m7 γ7 t7 => (TI E k 263 [.ref 158, .int (iI (scr E (((y3 + 1)).toNat))), .int (iI (scr E (((y3 + 2)).toNat))), .int (iI (scr E (((y3 + 3)).toNat)))] m7 γ7 t7 (fun v11 m11 γ11 t11 => (((v7 = v11) → (hd_L_law_1870 E k y3 m11 γ11 t11 Q)) ∧ (¬ (v7 = v11) → (Q 0 m11 γ11 t11))))))))))
abbrev W_L_law_1181 (E : am_E) (k : Nat) (y3 : Int) (m : MM) (γ : GM) (t : am_H) (Q : Int → MM → GM → am_H → Prop) : Prop := (scO E (y3 + 1) ∧ (scO E (y3 + 2) ∧ (scO E (y3 + 3) ∧ (TI E k 154 [.ref 0, .int (iI (scr E (((y3 + 1)).toNat))), .long (lI (lOr (lShl (scr E (((y3 + 2)).toNat)) 32) (lAnd (scr E (((y3 + 3)).toNat)) 4294967295)))] m γ t (fun v10 m10 γ10 t10 => (TI E k 267 [.ref 158, .int (iI (scr E (((y3 + 1)).toNat))), .long (lI (lOr (lShl (scr E (((y3 + 2)).toNat)) 32) (lAnd (scr E (((y3 + 3)).toNat)) 4294967295)))] m10 γ10 t10 (fun v17 m17 γ17 t17 => (((v10 = v17) → (hd_L_law_1870 E k y3 m17 γ17 t17 Q)) ∧ (¬ (v10 = v17) → (Q 0 m17 γ17 t17))))))))))
abbrev W_L_law_1244 (E : am_E) (k : Nat) (y3 : Int) (m : MM) (γ : GM) (t : am_H) (Q : Int → MM → GM → am_H → Prop) : Prop := (scO E (y3 + 1) ∧ (scO E (y3 + 2) ∧ (TI E k 155 [.ref 0, .int (iI (scr E (((y3 + 1)).toNat))), .int (iI (scr E (((y3 + 2)).toNat)))] m γ t (fun v5 m5 γ5 t5 => (TI E k 268 [.ref 158, .int (iI (scr E (((y3 + 1)).toNat))), .int (iI (scr E (((y3 + 2)).toNat)))] m5 γ5 t5 (fun v8 m8 γ8 t8 => (((v5 = v8) → (hd_L_law_1870 E k y3 m8 γ8 t8 Q)) ∧ (¬ (v5 = v8) → (Q 0 m8 γ8 t8)))))))))
abbrev W_L_law_1277 (E : am_E) (k : Nat) (y3 : Int) (m : MM) (γ : GM) (t : am_H) (Q : Int → MM → GM → am_H → Prop) : Prop := (scO E (y3 + 1) ∧ (scO E (y3 + 2) ∧ (TL E k 156 [.ref 0, .int (iI (scr E (((y3 + 1)).toNat))), .int (iI (scr E (((y3 + 2)).toNat)))] m γ t (fun v5 m5 γ5 t5 => (TL E k 273 [.ref 158, .int (iI (scr E (((y3 + 1)).toNat))), .int (iI (scr E (((y3 + 2)).toNat)))] m5 γ5 t5 (fun v8 m8 γ8 t8 => ((((lcI v5 v8) = 0) → (hd_L_law_1870 E k y3 m8 γ8 t8 Q)) ∧ (¬ ((lcI v5 v8) = 0) → (Q 0 m8 γ8 t8)))))))))
abbrev W_L_law_1311 (E : am_E) (k : Nat) (y3 : Int) (m : MM) (γ : GM) (t : am_H) (Q : Int → MM → GM → am_H → Prop) : Prop := (scO E (y3 + 1) ∧ (scO E (y3 + 2) ∧ (TL E k 157 [.ref 0, .int (iI (scr E (((y3 + 1)).toNat))), .int (iI (scr E (((y3 + 2)).toNat)))] m γ t (fun v5 m5 γ5 t5 => (TL E k 274 [.ref 158, .int (iI (scr E (((y3 + 1)).toNat))), .int (iI (scr E (((y3 + 2)).toNat)))] m5 γ5 t5 (fun v8 m8 γ8 t8 => ((((lcI v5 v8) = 0) → (hd_L_law_1870 E k y3 m8 γ8 t8 Q)) ∧ (¬ ((lcI v5 v8) = 0) → (Q 0 m8 γ8 t8)))))))))
abbrev W_L_law_1345 (E : am_E) (k : Nat) (y3 : Int) (m : MM) (γ : GM) (t : am_H) (Q : Int → MM → GM → am_H → Prop) : Prop := (scO E (y3 + 1) ∧ (TL E k 158 [.ref 0, .int (iI (scr E (((y3 + 1)).toNat)))] m γ t (fun v3 m3 γ3 t3 => (TL E k 277 [.ref 158, .int (iI (scr E (((y3 + 1)).toNat)))] m3 γ3 t3 (fun v5 m5 γ5 t5 => ((((lcI v3 v5) = 0) → (hd_L_law_1870 E k y3 m5 γ5 t5 Q)) ∧ (¬ ((lcI v3 v5) = 0) → (Q 0 m5 γ5 t5))))))))
abbrev W_L_law_1369 (E : am_E) (k : Nat) (y3 : Int) (m : MM) (γ : GM) (t : am_H) (Q : Int → MM → GM → am_H → Prop) : Prop := (scO E (y3 + 1) ∧ (scO E (y3 + 2) ∧ (TI E k 159 [.ref 0, .int (iI (scr E (((y3 + 1)).toNat))), .int (iI (scr E (((y3 + 2)).toNat)))] m γ t (fun v5 m5 γ5 t5 => (TI E k 283 [.ref 158, .int (iI (scr E (((y3 + 1)).toNat))), .int (iI (scr E (((y3 + 2)).toNat)))] m5 γ5 t5 (fun v8 m8 γ8 t8 => (((v5 = v8) → (hd_L_law_1870 E k y3 m8 γ8 t8 Q)) ∧ (¬ (v5 = v8) → (Q 0 m8 γ8 t8)))))))))
abbrev W_L_law_1402 (E : am_E) (k : Nat) (y3 : Int) (m : MM) (γ : GM) (t : am_H) (Q : Int → MM → GM → am_H → Prop) : Prop := (scO E (y3 + 1) ∧ (TI E k 160 [.ref 0, .int (iI (scr E (((y3 + 1)).toNat)))] m γ t (fun v3 m3 γ3 t3 => (TI E k 284 [.ref 158, .int (iI (scr E (((y3 + 1)).toNat)))] m3 γ3 t3 (fun v5 m5 γ5 t5 => (((v3 = v5) → (hd_L_law_1870 E k y3 m5 γ5 t5 Q)) ∧ (¬ (v3 = v5) → (Q 0 m5 γ5 t5))))))))
abbrev W_L_law_1425 (E : am_E) (k : Nat) (y3 : Int) (m : MM) (γ : GM) (t : am_H) (Q : Int → MM → GM → am_H → Prop) : Prop := (scO E (y3 + 1) ∧ (TI E k 161 [.ref 0, .int (iI (scr E (((y3 + 1)).toNat)))] m γ t (fun v3 m3 γ3 t3 => (TI E k 285 [.ref 158, .int (iI (scr E (((y3 + 1)).toNat)))] m3 γ3 t3 (fun v5 m5 γ5 t5 => (((v3 = v5) → (hd_L_law_1870 E k y3 m5 γ5 t5 Q)) ∧ (¬ (v3 = v5) → (Q 0 m5 γ5 t5))))))))
abbrev W_L_law_1448 (E : am_E) (k : Nat) (y3 : Int) (m : MM) (γ : GM) (t : am_H) (Q : Int → MM → GM → am_H → Prop) : Prop := (scO E (y3 + 1) ∧ (TI E k 162 [.ref 0, .int (iI (scr E (((y3 + 1)).toNat)))] m γ t (fun v3 m3 γ3 t3 => (TI E k 288 [.ref 158, .int (iI (scr E (((y3 + 1)).toNat)))] m3 γ3 t3 (fun v5 m5 γ5 t5 => (((v3 = v5) → (hd_L_law_1870 E k y3 m5 γ5 t5 Q)) ∧ (¬ (v3 = v5) → (Q 0 m5 γ5 t5))))))))
abbrev W_L_law_1471 (E : am_E) (k : Nat) (y3 : Int) (m : MM) (γ : GM) (t : am_H) (Q : Int → MM → GM → am_H → Prop) : Prop := (scO E (y3 + 1) ∧ (scO E (y3 + 2) ∧ (scO E (y3 + 3) ∧ (TI E k 163 [.ref 0, .int (iI (scr E (((y3 + 1)).toNat))), .int (iI (scr E (((y3 + 2)).toNat))), .int (iI (scr E (((y3 + 3)).toNat)))] m γ t (fun v7 m7 γ7 t7 => (TI E k 289 [.ref 158, .int (iI (scr E (((y3 + 1)).toNat))), .int (iI (scr E (((y3 + 2)).toNat))), .int (iI (scr E (((y3 + 3)).toNat)))] m7 γ7 t7 (fun v11 m11 γ11 t11 => (((v7 = v11) → (hd_L_law_1870 E k y3 m11 γ11 t11 Q)) ∧ (¬ (v7 = v11) → (Q 0 m11 γ11 t11))))))))))
abbrev W_L_law_1514 (E : am_E) (k : Nat) (y3 : Int) (m : MM) (γ : GM) (t : am_H) (Q : Int → MM → GM → am_H → Prop) : Prop := (scO E (y3 + 1) ∧ (scO E (y3 + 2) ∧ (scO E (y3 + 3) ∧ (TI E k 164 [.ref 0, .int (iI (scr E (((y3 + 1)).toNat))), .int (iI (scr E (((y3 + 2)).toNat))), .int (iI (scr E (((y3 + 3)).toNat)))] m γ t (fun v7 m7 γ7 t7 => (TI E k 290 [.ref 158, .int (iI (scr E (((y3 + 1)).toNat))), .int (iI (scr E (((y3 + 2)).toNat))), .int (iI (scr E (((y3 + 3)).toNat)))] m7 γ7 t7 (fun v11 m11 γ11 t11 => (((v7 = v11) → (hd_L_law_1870 E k y3 m11 γ11 t11 Q)) ∧ (¬ (v7 = v11) → (Q 0 m11 γ11 t11))))))))))
abbrev W_L_law_1557 (E : am_E) (k : Nat) (y3 : Int) (m : MM) (γ : GM) (t : am_H) (Q : Int → MM → GM → am_H → Prop) : Prop := (scO E (y3 + 1) ∧ (TI E k 165 [.ref 0, .int (iI (scr E (((y3 + 1)).toNat)))] m γ t (fun v3 m3 γ3 t3 => (TI E k 292 [.ref 158, .int (iI (scr E (((y3 + 1)).toNat)))] m3 γ3 t3 (fun v5 m5 γ5 t5 => (((v3 = v5) → (hd_L_law_1870 E k y3 m5 γ5 t5 Q)) ∧ (¬ (v3 = v5) → (Q 0 m5 γ5 t5))))))))
abbrev W_L_law_1580 (E : am_E) (k : Nat) (y3 : Int) (m : MM) (γ : GM) (t : am_H) (Q : Int → MM → GM → am_H → Prop) : Prop := (scO E (y3 + 1) ∧ (TI E k 166 [.ref 0, .int (iI (scr E (((y3 + 1)).toNat)))] m γ t (fun v3 m3 γ3 t3 => (TI E k 296 [.ref 158, .int (iI (scr E (((y3 + 1)).toNat)))] m3 γ3 t3 (fun v5 m5 γ5 t5 => (((v3 = v5) → (hd_L_law_1870 E k y3 m5 γ5 t5 Q)) ∧ (¬ (v3 = v5) → (Q 0 m5 γ5 t5))))))))
abbrev W_L_law_1603 (E : am_E) (k : Nat) (y3 : Int) (m : MM) (γ : GM) (t : am_H) (Q : Int → MM → GM → am_H → Prop) : Prop := (scO E (y3 + 1) ∧ (TI E k 167 [.ref 0, .int (iI (scr E (((y3 + 1)).toNat)))] m γ t (fun v3 m3 γ3 t3 => (TI E k 297 [.ref 158, .int (iI (scr E (((y3 + 1)).toNat)))] m3 γ3 t3 (fun v5 m5 γ5 t5 => (((v3 = v5) → (hd_L_law_1870 E k y3 m5 γ5 t5 Q)) ∧ (¬ (v3 = v5) → (Q 0 m5 γ5 t5))))))))
abbrev W_L_law_1626 (E : am_E) (k : Nat) (y3 : Int) (m : MM) (γ : GM) (t : am_H) (Q : Int → MM → GM → am_H → Prop) : Prop := (scO E (y3 + 1) ∧ (scO E (y3 + 2) ∧ (scO E (y3 + 3) ∧ (scO E (y3 + 4) ∧ (TI E k 168 [.ref 0, .int (iI (scr E (((y3 + 1)).toNat))), .int (iI (scr E (((y3 + 2)).toNat))), .int (iI (scr E (((y3 + 3)).toNat))), .int (iI (scr E (((y3 + 4)).toNat)))] m γ t (fun v9 m9 γ9 t9 => (TI E k 298 [.ref 158, .int (iI (scr E (((y3 + 1)).toNat))), .int (iI (scr E (((y3 + 2)).toNat))), .int (iI (scr E (((y3 + 3)).toNat))), .int (iI (scr E (((y3 + 4)).toNat)))] m9 γ9 t9 (fun v14 m14 γ14 t14 => (((v9 = v14) → (hd_L_law_1870 E k y3 m14 γ14 t14 Q)) ∧ (¬ (v9 = v14) → (Q 0 m14 γ14 t14)))))))))))
abbrev W_L_law_1679 (E : am_E) (k : Nat) (y3 : Int) (m : MM) (γ : GM) (t : am_H) (Q : Int → MM → GM → am_H → Prop) : Prop := (scO E (y3 + 1) ∧ (scO E (y3 + 2) ∧ (TI E k 169 [.ref 0, .int (iI (scr E (((y3 + 1)).toNat))), .int (iI (scr E (((y3 + 2)).toNat)))] m γ t (fun v5 m5 γ5 t5 => (TI E k 300 [.ref 158, .int (iI (scr E (((y3 + 1)).toNat))), .int (iI (scr E (((y3 + 2)).toNat)))] m5 γ5 t5 (fun v8 m8 γ8 t8 => (((v5 = v8) → (hd_L_law_1870 E k y3 m8 γ8 t8 Q)) ∧ (¬ (v5 = v8) → (Q 0 m8 γ8 t8)))))))))
abbrev W_L_law_1712 (E : am_E) (k : Nat) (y3 : Int) (m : MM) (γ : GM) (t : am_H) (Q : Int → MM → GM → am_H → Prop) : Prop := (scO E (y3 + 1) ∧ (scO E (y3 + 2) ∧ (TI E k 170 [.ref 0, .int (iI (scr E (((y3 + 1)).toNat))), .int (iI (scr E (((y3 + 2)).toNat)))] m γ t (fun v5 m5 γ5 t5 => (TI E k 301 [.ref 158, .int (iI (scr E (((y3 + 1)).toNat))), .int (iI (scr E (((y3 + 2)).toNat)))] m5 γ5 t5 (fun v8 m8 γ8 t8 => (((v5 = v8) → (hd_L_law_1870 E k y3 m8 γ8 t8 Q)) ∧ (¬ (v5 = v8) → (Q 0 m8 γ8 t8)))))))))
abbrev W_L_law_1745 (E : am_E) (k : Nat) (y3 : Int) (m : MM) (γ : GM) (t : am_H) (Q : Int → MM → GM → am_H → Prop) : Prop := (scO E (y3 + 1) ∧ (scO E (y3 + 2) ∧ (TI E k 171 [.ref 0, .int (iI (scr E (((y3 + 1)).toNat))), .int (iI (scr E (((y3 + 2)).toNat)))] m γ t (fun v5 m5 γ5 t5 => (TI E k 302 [.ref 158, .int (iI (scr E (((y3 + 1)).toNat))), .int (iI (scr E (((y3 + 2)).toNat)))] m5 γ5 t5 (fun v8 m8 γ8 t8 => (((v5 = v8) → (hd_L_law_1870 E k y3 m8 γ8 t8 Q)) ∧ (¬ (v5 = v8) → (Q 0 m8 γ8 t8)))))))))
abbrev W_L_law_1778 (E : am_E) (k : Nat) (y3 : Int) (m : MM) (γ : GM) (t : am_H) (Q : Int → MM → GM → am_H → Prop) : Prop := (scO E (y3 + 1) ∧ (TI E k 172 [.ref 0, .int (iI (scr E (((y3 + 1)).toNat)))] m γ t (fun v3 m3 γ3 t3 => (TI E k 199 [.ref 158, .int (iI (scr E (((y3 + 1)).toNat)))] m3 γ3 t3 (fun v5 m5 γ5 t5 => (((v3 = v5) → (hd_L_law_1870 E k y3 m5 γ5 t5 Q)) ∧ (¬ (v3 = v5) → (Q 0 m5 γ5 t5))))))))
abbrev W_L_law_1801 (E : am_E) (k : Nat) (y3 : Int) (m : MM) (γ : GM) (t : am_H) (Q : Int → MM → GM → am_H → Prop) : Prop := (TI E k 173 [.ref 0] m γ t (fun v1 m1 γ1 t1 => (TI E k 198 [.ref 158] m1 γ1 t1 (fun v2 m2 γ2 t2 => (((v1 = v2) → (hd_L_law_1870 E k y3 m2 γ2 t2 Q)) ∧ (¬ (v1 = v2) → (Q 0 m2 γ2 t2)))))))
abbrev W_L_law_1814 (E : am_E) (k : Nat) (y3 : Int) (m : MM) (γ : GM) (t : am_H) (Q : Int → MM → GM → am_H → Prop) : Prop := (scO E (y3 + 1) ∧ (scO E (y3 + 2) ∧ (TI E k 174 [.ref 0, .int (iI (scr E (((y3 + 1)).toNat))), .int (iI (scr E (((y3 + 2)).toNat)))] m γ t (fun v5 m5 γ5 t5 => (TI E k 307 [.ref 158, .int (iI (scr E (((y3 + 1)).toNat))), .int (iI (scr E (((y3 + 2)).toNat)))] m5 γ5 t5 (fun v8 m8 γ8 t8 => (((v5 = v8) → (hd_L_law_1870 E k y3 m8 γ8 t8 Q)) ∧ (¬ (v5 = v8) → (Q 0 m8 γ8 t8)))))))))
abbrev W_L_law_1847 (E : am_E) (k : Nat) (y3 : Int) (m : MM) (γ : GM) (t : am_H) (Q : Int → MM → GM → am_H → Prop) : Prop := (scO E (y3 + 1) ∧ (TI E k 175 [.ref 0, .int (iI (scr E (((y3 + 1)).toNat)))] m γ t (fun v3 m3 γ3 t3 => (TI E k 308 [.ref 158, .int (iI (scr E (((y3 + 1)).toNat)))] m3 γ3 t3 (fun v5 m5 γ5 t5 => (((v3 = v5) → (hd_L_law_1870 E k y3 m5 γ5 t5 Q)) ∧ (¬ (v3 = v5) → (Q 0 m5 γ5 t5))))))))
abbrev W_L_law_1870 (E : am_E) (k : Nat) (y3 : Int) (m : MM) (γ : GM) (t : am_H) (Q : Int → MM → GM → am_H → Prop) : Prop := (hd_L_law_18 E k (y3 + 6) m γ t Q)
set_option maxRecDepth 100000 in
theorem vc_L_law_18 {E : am_E} {k : Nat} {y3 : Int} {m : MM} {γ : GM} {t : am_H} {Q : Int → MM → GM → am_H → Prop} (hy3 : rJ y3) (hW : W_L_law_18 E k y3 m γ t Q) : hd_L_law_18 E k y3 m γ t Q := by
  unfold W_L_law_18 at hW
  intro h S
  refine wp_g (n := 2) (pc' := 20) (L' := [some (.ref 1002000), some (.ref 0), some (.ref 158), some (.int (iI y3))]) (st' := [.ref 1002000, .int (iI y3)]) rfl ?_
  refine wp_scl rfl ?_
  show wp _ _ _ _ _ [.int (iI (E.1.1 : Int)), .int (iI y3)] _ _
  refine wp_g (n := 1) (pc' := 23) (L' := [some (.ref 1002000), some (.ref 0), some (.ref 158), some (.int (iI y3))]) (st' := [.int (iI 6), .int (iI (E.1.1 : Int)), .int (iI y3)]) rfl ?_
  refine wp_sub (a := (E.1.1 : Int)) (b := 6) rfl ?_
  obtain ⟨p1, hW⟩ := hW
  refine wp_icmpI (a := y3) (b := ((E.1.1 : Int) - 6)) rfl rfl hy3.1 hy3.2 p1.1 p1.2 (fun c2 => ?_) (fun c2 => ?_)
  · have dc2 := (Int.not_le.mpr c2)
    have hW := hW.2 dc2
    refine wp_g (n := 1) (pc' := 1877) (L' := [some (.ref 1002000), some (.ref 0), some (.ref 158), some (.int (iI y3))]) (st' := [.int (iI 1)]) rfl ?_
    exact wp_zret rfl rfl (by decide) ⟨_, _, _, _, rfl, (by decide), S, hW⟩
  · have dc2 := (Int.not_lt.mp c2)
    have hW := hW.1 dc2
    refine wp_g (n := 2) (pc' := 29) (L' := [some (.ref 1002000), some (.ref 0), some (.ref 158), some (.int (iI y3))]) (st' := [.int (iI y3), .ref 1002000]) rfl ?_
    obtain ⟨p3, hW⟩ := hW
    refine wp_scr rfl p3 ?_
    have hr4 : rJ (scr E ((y3).toNat)) := i32_rg _
    refine wp_g (n := 1) (pc' := 32) (L' := [some (.ref 1002000), some (.ref 0), some (.ref 158), some (.int (iI y3))]) (st' := [.int (iI 63), .int (iI (scr E ((y3).toNat)))]) rfl ?_
    refine wp_bAnd (a := (scr E ((y3).toNat))) (b := 63) rfl ?_
    have hr5 : rJ (bAnd (scr E ((y3).toNat)) 63) := i32_rg _
    by_cases c6 : (bAnd (scr E ((y3).toNat)) 63) = 0
    · have hW := hW.1 c6
      refine wp_tswI rfl (by rw [c6]; decide) (by rw [c6]; decide) 0 (by rw [c6]; decide) rfl rfl ?_
      exact hW _ S
    have hW := hW.2 c6
    by_cases c7 : (bAnd (scr E ((y3).toNat)) 63) = 1
    · have hW := hW.1 c7
      refine wp_tswI rfl (by rw [c7]; decide) (by rw [c7]; decide) 1 (by rw [c7]; decide) rfl rfl ?_
      exact hW _ S
    have hW := hW.2 c7
    by_cases c8 : (bAnd (scr E ((y3).toNat)) 63) = 2
    · have hW := hW.1 c8
      refine wp_tswI rfl (by rw [c8]; decide) (by rw [c8]; decide) 2 (by rw [c8]; decide) rfl rfl ?_
      exact hW _ S
    have hW := hW.2 c8
    by_cases c9 : (bAnd (scr E ((y3).toNat)) 63) = 3
    · have hW := hW.1 c9
      refine wp_tswI rfl (by rw [c9]; decide) (by rw [c9]; decide) 3 (by rw [c9]; decide) rfl rfl ?_
      exact hW _ S
    have hW := hW.2 c9
    by_cases c10 : (bAnd (scr E ((y3).toNat)) 63) = 4
    · have hW := hW.1 c10
      refine wp_tswI rfl (by rw [c10]; decide) (by rw [c10]; decide) 4 (by rw [c10]; decide) rfl rfl ?_
      exact hW _ S
    have hW := hW.2 c10
    by_cases c11 : (bAnd (scr E ((y3).toNat)) 63) = 5
    · have hW := hW.1 c11
      refine wp_tswI rfl (by rw [c11]; decide) (by rw [c11]; decide) 5 (by rw [c11]; decide) rfl rfl ?_
      exact hW _ S
    have hW := hW.2 c11
    by_cases c12 : (bAnd (scr E ((y3).toNat)) 63) = 6
    · have hW := hW.1 c12
      refine wp_tswI rfl (by rw [c12]; decide) (by rw [c12]; decide) 6 (by rw [c12]; decide) rfl rfl ?_
      exact hW _ S
    have hW := hW.2 c12
    by_cases c13 : (bAnd (scr E ((y3).toNat)) 63) = 7
    · have hW := hW.1 c13
      refine wp_tswI rfl (by rw [c13]; decide) (by rw [c13]; decide) 7 (by rw [c13]; decide) rfl rfl ?_
      exact hW _ S
    have hW := hW.2 c13
    by_cases c14 : (bAnd (scr E ((y3).toNat)) 63) = 8
    · have hW := hW.1 c14
      refine wp_tswI rfl (by rw [c14]; decide) (by rw [c14]; decide) 8 (by rw [c14]; decide) rfl rfl ?_
      exact hW _ S
    have hW := hW.2 c14
    by_cases c15 : (bAnd (scr E ((y3).toNat)) 63) = 9
    · have hW := hW.1 c15
      refine wp_tswI rfl (by rw [c15]; decide) (by rw [c15]; decide) 9 (by rw [c15]; decide) rfl rfl ?_
      exact hW _ S
    have hW := hW.2 c15
    by_cases c16 : (bAnd (scr E ((y3).toNat)) 63) = 10
    · have hW := hW.1 c16
      refine wp_tswI rfl (by rw [c16]; decide) (by rw [c16]; decide) 10 (by rw [c16]; decide) rfl rfl ?_
      exact hW _ S
    have hW := hW.2 c16
    by_cases c17 : (bAnd (scr E ((y3).toNat)) 63) = 11
    · have hW := hW.1 c17
      refine wp_tswI rfl (by rw [c17]; decide) (by rw [c17]; decide) 11 (by rw [c17]; decide) rfl rfl ?_
      exact hW _ S
    have hW := hW.2 c17
    by_cases c18 : (bAnd (scr E ((y3).toNat)) 63) = 12
    · have hW := hW.1 c18
      refine wp_tswI rfl (by rw [c18]; decide) (by rw [c18]; decide) 12 (by rw [c18]; decide) rfl rfl ?_
      exact hW _ S
    have hW := hW.2 c18
    by_cases c19 : (bAnd (scr E ((y3).toNat)) 63) = 13
    · have hW := hW.1 c19
      refine wp_tswI rfl (by rw [c19]; decide) (by rw [c19]; decide) 13 (by rw [c19]; decide) rfl rfl ?_
      exact hW _ S
    have hW := hW.2 c19
    by_cases c20 : (bAnd (scr E ((y3).toNat)) 63) = 14
    · have hW := hW.1 c20
      refine wp_tswI rfl (by rw [c20]; decide) (by rw [c20]; decide) 14 (by rw [c20]; decide) rfl rfl ?_
      exact hW _ S
    have hW := hW.2 c20
    by_cases c21 : (bAnd (scr E ((y3).toNat)) 63) = 15
    · have hW := hW.1 c21
      refine wp_tswI rfl (by rw [c21]; decide) (by rw [c21]; decide) 15 (by rw [c21]; decide) rfl rfl ?_
      exact hW _ S
    have hW := hW.2 c21
    by_cases c22 : (bAnd (scr E ((y3).toNat)) 63) = 16
    · have hW := hW.1 c22
      refine wp_tswI rfl (by rw [c22]; decide) (by rw [c22]; decide) 16 (by rw [c22]; decide) rfl rfl ?_
      exact hW _ S
    have hW := hW.2 c22
    by_cases c23 : (bAnd (scr E ((y3).toNat)) 63) = 17
    · have hW := hW.1 c23
      refine wp_tswI rfl (by rw [c23]; decide) (by rw [c23]; decide) 17 (by rw [c23]; decide) rfl rfl ?_
      exact hW _ S
    have hW := hW.2 c23
    by_cases c24 : (bAnd (scr E ((y3).toNat)) 63) = 18
    · have hW := hW.1 c24
      refine wp_tswI rfl (by rw [c24]; decide) (by rw [c24]; decide) 18 (by rw [c24]; decide) rfl rfl ?_
      exact hW _ S
    have hW := hW.2 c24
    by_cases c25 : (bAnd (scr E ((y3).toNat)) 63) = 19
    · have hW := hW.1 c25
      refine wp_tswI rfl (by rw [c25]; decide) (by rw [c25]; decide) 19 (by rw [c25]; decide) rfl rfl ?_
      exact hW _ S
    have hW := hW.2 c25
    by_cases c26 : (bAnd (scr E ((y3).toNat)) 63) = 20
    · have hW := hW.1 c26
      refine wp_tswI rfl (by rw [c26]; decide) (by rw [c26]; decide) 20 (by rw [c26]; decide) rfl rfl ?_
      exact hW _ S
    have hW := hW.2 c26
    by_cases c27 : (bAnd (scr E ((y3).toNat)) 63) = 21
    · have hW := hW.1 c27
      refine wp_tswI rfl (by rw [c27]; decide) (by rw [c27]; decide) 21 (by rw [c27]; decide) rfl rfl ?_
      exact hW _ S
    have hW := hW.2 c27
    by_cases c28 : (bAnd (scr E ((y3).toNat)) 63) = 22
    · have hW := hW.1 c28
      refine wp_tswI rfl (by rw [c28]; decide) (by rw [c28]; decide) 22 (by rw [c28]; decide) rfl rfl ?_
      exact hW _ S
    have hW := hW.2 c28
    by_cases c29 : (bAnd (scr E ((y3).toNat)) 63) = 23
    · have hW := hW.1 c29
      refine wp_tswI rfl (by rw [c29]; decide) (by rw [c29]; decide) 23 (by rw [c29]; decide) rfl rfl ?_
      exact hW _ S
    have hW := hW.2 c29
    by_cases c30 : (bAnd (scr E ((y3).toNat)) 63) = 24
    · have hW := hW.1 c30
      refine wp_tswI rfl (by rw [c30]; decide) (by rw [c30]; decide) 24 (by rw [c30]; decide) rfl rfl ?_
      exact hW _ S
    have hW := hW.2 c30
    by_cases c31 : (bAnd (scr E ((y3).toNat)) 63) = 25
    · have hW := hW.1 c31
      refine wp_tswI rfl (by rw [c31]; decide) (by rw [c31]; decide) 25 (by rw [c31]; decide) rfl rfl ?_
      exact hW _ S
    have hW := hW.2 c31
    by_cases c32 : (bAnd (scr E ((y3).toNat)) 63) = 26
    · have hW := hW.1 c32
      refine wp_tswI rfl (by rw [c32]; decide) (by rw [c32]; decide) 26 (by rw [c32]; decide) rfl rfl ?_
      exact hW _ S
    have hW := hW.2 c32
    by_cases c33 : (bAnd (scr E ((y3).toNat)) 63) = 27
    · have hW := hW.1 c33
      refine wp_tswI rfl (by rw [c33]; decide) (by rw [c33]; decide) 27 (by rw [c33]; decide) rfl rfl ?_
      exact hW _ S
    have hW := hW.2 c33
    by_cases c34 : (bAnd (scr E ((y3).toNat)) 63) = 28
    · have hW := hW.1 c34
      refine wp_tswI rfl (by rw [c34]; decide) (by rw [c34]; decide) 28 (by rw [c34]; decide) rfl rfl ?_
      exact hW _ S
    have hW := hW.2 c34
    by_cases c35 : (bAnd (scr E ((y3).toNat)) 63) = 29
    · have hW := hW.1 c35
      refine wp_tswI rfl (by rw [c35]; decide) (by rw [c35]; decide) 29 (by rw [c35]; decide) rfl rfl ?_
      exact hW _ S
    have hW := hW.2 c35
    by_cases c36 : (bAnd (scr E ((y3).toNat)) 63) = 30
    · have hW := hW.1 c36
      refine wp_tswI rfl (by rw [c36]; decide) (by rw [c36]; decide) 30 (by rw [c36]; decide) rfl rfl ?_
      exact hW _ S
    have hW := hW.2 c36
    by_cases c37 : (bAnd (scr E ((y3).toNat)) 63) = 31
    · have hW := hW.1 c37
      refine wp_tswI rfl (by rw [c37]; decide) (by rw [c37]; decide) 31 (by rw [c37]; decide) rfl rfl ?_
      exact hW _ S
    have hW := hW.2 c37
    by_cases c38 : (bAnd (scr E ((y3).toNat)) 63) = 32
    · have hW := hW.1 c38
      refine wp_tswI rfl (by rw [c38]; decide) (by rw [c38]; decide) 32 (by rw [c38]; decide) rfl rfl ?_
      exact hW _ S
    have hW := hW.2 c38
    by_cases c39 : (bAnd (scr E ((y3).toNat)) 63) = 33
    · have hW := hW.1 c39
      refine wp_tswI rfl (by rw [c39]; decide) (by rw [c39]; decide) 33 (by rw [c39]; decide) rfl rfl ?_
      exact hW _ S
    have hW := hW.2 c39
    by_cases c40 : (bAnd (scr E ((y3).toNat)) 63) = 34
    · have hW := hW.1 c40
      refine wp_tswI rfl (by rw [c40]; decide) (by rw [c40]; decide) 34 (by rw [c40]; decide) rfl rfl ?_
      exact hW _ S
    have hW := hW.2 c40
    by_cases c41 : (bAnd (scr E ((y3).toNat)) 63) = 35
    · have hW := hW.1 c41
      refine wp_tswI rfl (by rw [c41]; decide) (by rw [c41]; decide) 35 (by rw [c41]; decide) rfl rfl ?_
      exact hW _ S
    have hW := hW.2 c41
    by_cases c42 : (bAnd (scr E ((y3).toNat)) 63) = 36
    · have hW := hW.1 c42
      refine wp_tswI rfl (by rw [c42]; decide) (by rw [c42]; decide) 36 (by rw [c42]; decide) rfl rfl ?_
      exact hW _ S
    have hW := hW.2 c42
    by_cases c43 : (bAnd (scr E ((y3).toNat)) 63) = 37
    · have hW := hW.1 c43
      refine wp_tswI rfl (by rw [c43]; decide) (by rw [c43]; decide) 37 (by rw [c43]; decide) rfl rfl ?_
      exact hW _ S
    have hW := hW.2 c43
    by_cases c44 : (bAnd (scr E ((y3).toNat)) 63) = 38
    · have hW := hW.1 c44
      refine wp_tswI rfl (by rw [c44]; decide) (by rw [c44]; decide) 38 (by rw [c44]; decide) rfl rfl ?_
      exact hW _ S
    have hW := hW.2 c44
    by_cases c45 : (bAnd (scr E ((y3).toNat)) 63) = 39
    · have hW := hW.1 c45
      refine wp_tswI rfl (by rw [c45]; decide) (by rw [c45]; decide) 39 (by rw [c45]; decide) rfl rfl ?_
      exact hW _ S
    have hW := hW.2 c45
    by_cases c46 : (bAnd (scr E ((y3).toNat)) 63) = 40
    · have hW := hW.1 c46
      refine wp_tswI rfl (by rw [c46]; decide) (by rw [c46]; decide) 40 (by rw [c46]; decide) rfl rfl ?_
      exact hW _ S
    have hW := hW.2 c46
    by_cases c47 : (bAnd (scr E ((y3).toNat)) 63) = 41
    · have hW := hW.1 c47
      refine wp_tswI rfl (by rw [c47]; decide) (by rw [c47]; decide) 41 (by rw [c47]; decide) rfl rfl ?_
      exact hW _ S
    have hW := hW.2 c47
    by_cases c48 : (bAnd (scr E ((y3).toNat)) 63) = 42
    · have hW := hW.1 c48
      refine wp_tswI rfl (by rw [c48]; decide) (by rw [c48]; decide) 42 (by rw [c48]; decide) rfl rfl ?_
      exact hW _ S
    have hW := hW.2 c48
    by_cases c49 : (bAnd (scr E ((y3).toNat)) 63) = 43
    · have hW := hW.1 c49
      refine wp_tswI rfl (by rw [c49]; decide) (by rw [c49]; decide) 43 (by rw [c49]; decide) rfl rfl ?_
      exact hW _ S
    have hW := hW.2 c49
    by_cases c50 : (bAnd (scr E ((y3).toNat)) 63) = 44
    · have hW := hW.1 c50
      refine wp_tswI rfl (by rw [c50]; decide) (by rw [c50]; decide) 44 (by rw [c50]; decide) rfl rfl ?_
      exact hW _ S
    have hW := hW.2 c50
    by_cases c51 : (bAnd (scr E ((y3).toNat)) 63) = 45
    · have hW := hW.1 c51
      refine wp_tswI rfl (by rw [c51]; decide) (by rw [c51]; decide) 45 (by rw [c51]; decide) rfl rfl ?_
      exact hW _ S
    have hW := hW.2 c51
    by_cases c52 : (bAnd (scr E ((y3).toNat)) 63) = 46
    · have hW := hW.1 c52
      refine wp_tswI rfl (by rw [c52]; decide) (by rw [c52]; decide) 46 (by rw [c52]; decide) rfl rfl ?_
      exact hW _ S
    have hW := hW.2 c52
    refine wp_tswO rfl hr5.1 hr5.2 (ts (ts (ts (ts (ts (ts (ts (ts (ts (ts (ts (ts (ts (ts (ts (ts (ts (ts (ts (ts (ts (ts (ts (ts (ts (ts (ts (ts (ts (ts (ts (ts (ts (ts (ts (ts (ts (ts (ts (ts (ts (ts (ts (ts (ts (ts (ts (ts0 (z := (bAnd (scr E ((y3).toNat)) 63)) (lo := 0) (a := (-1)) (by decide)) c6 (by decide : (0 : Int) = (-1) + 1)) c7 (by decide : (1 : Int) = 0 + 1)) c8 (by decide : (2 : Int) = 1 + 1)) c9 (by decide : (3 : Int) = 2 + 1)) c10 (by decide : (4 : Int) = 3 + 1)) c11 (by decide : (5 : Int) = 4 + 1)) c12 (by decide : (6 : Int) = 5 + 1)) c13 (by decide : (7 : Int) = 6 + 1)) c14 (by decide : (8 : Int) = 7 + 1)) c15 (by decide : (9 : Int) = 8 + 1)) c16 (by decide : (10 : Int) = 9 + 1)) c17 (by decide : (11 : Int) = 10 + 1)) c18 (by decide : (12 : Int) = 11 + 1)) c19 (by decide : (13 : Int) = 12 + 1)) c20 (by decide : (14 : Int) = 13 + 1)) c21 (by decide : (15 : Int) = 14 + 1)) c22 (by decide : (16 : Int) = 15 + 1)) c23 (by decide : (17 : Int) = 16 + 1)) c24 (by decide : (18 : Int) = 17 + 1)) c25 (by decide : (19 : Int) = 18 + 1)) c26 (by decide : (20 : Int) = 19 + 1)) c27 (by decide : (21 : Int) = 20 + 1)) c28 (by decide : (22 : Int) = 21 + 1)) c29 (by decide : (23 : Int) = 22 + 1)) c30 (by decide : (24 : Int) = 23 + 1)) c31 (by decide : (25 : Int) = 24 + 1)) c32 (by decide : (26 : Int) = 25 + 1)) c33 (by decide : (27 : Int) = 26 + 1)) c34 (by decide : (28 : Int) = 27 + 1)) c35 (by decide : (29 : Int) = 28 + 1)) c36 (by decide : (30 : Int) = 29 + 1)) c37 (by decide : (31 : Int) = 30 + 1)) c38 (by decide : (32 : Int) = 31 + 1)) c39 (by decide : (33 : Int) = 32 + 1)) c40 (by decide : (34 : Int) = 33 + 1)) c41 (by decide : (35 : Int) = 34 + 1)) c42 (by decide : (36 : Int) = 35 + 1)) c43 (by decide : (37 : Int) = 36 + 1)) c44 (by decide : (38 : Int) = 37 + 1)) c45 (by decide : (39 : Int) = 38 + 1)) c46 (by decide : (40 : Int) = 39 + 1)) c47 (by decide : (41 : Int) = 40 + 1)) c48 (by decide : (42 : Int) = 41 + 1)) c49 (by decide : (43 : Int) = 42 + 1)) c50 (by decide : (44 : Int) = 43 + 1)) c51 (by decide : (45 : Int) = 44 + 1)) c52 (by decide : (46 : Int) = 45 + 1)) rfl ?_
    exact hW _ S
set_option maxRecDepth 100000 in
theorem vc_L_law_236 {E : am_E} {k : Nat} {y3 : Int} {m : MM} {γ : GM} {t : am_H} {Q : Int → MM → GM → am_H → Prop} (hy3 : rJ y3) (hW : W_L_law_236 E k y3 m γ t Q) : hd_L_law_236 E k y3 m γ t Q := by
  unfold W_L_law_236 at hW
  intro h S
  refine wp_g (n := 4) (pc' := 240) (L' := [some (.ref 1002000), some (.ref 0), some (.ref 158), some (.int (iI y3))]) (st' := [.int (iI 1), .int (iI y3), .ref 1002000, .ref 0]) rfl ?_
  refine wp_add (a := y3) (b := 1) rfl ?_
  obtain ⟨p1, hW⟩ := hW
  refine wp_scr rfl p1 ?_
  have hr2 : rJ (scr E (((y3 + 1)).toNat)) := i32_rg _
  refine wp_g (n := 3) (pc' := 245) (L' := [some (.ref 1002000), some (.ref 0), some (.ref 158), some (.int (iI y3))]) (st' := [.int (iI 2), .int (iI y3), .ref 1002000, .int (iI (scr E (((y3 + 1)).toNat))), .ref 0]) rfl ?_
  refine wp_add (a := y3) (b := 2) rfl ?_
  obtain ⟨p3, hW⟩ := hW
  refine wp_scr rfl p3 ?_
  have hr4 : rJ (scr E (((y3 + 2)).toNat)) := i32_rg _
  refine wp_g (n := 3) (pc' := 250) (L' := [some (.ref 1002000), some (.ref 0), some (.ref 158), some (.int (iI y3))]) (st' := [.int (iI 3), .int (iI y3), .ref 1002000, .int (iI (scr E (((y3 + 2)).toNat))), .int (iI (scr E (((y3 + 1)).toNat))), .ref 0]) rfl ?_
  refine wp_add (a := y3) (b := 3) rfl ?_
  obtain ⟨p5, hW⟩ := hW
  refine wp_scr rfl p5 ?_
  have hr6 : rJ (scr E (((y3 + 3)).toNat)) := i32_rg _
  refine wp_g (n := 3) (pc' := 255) (L' := [some (.ref 1002000), some (.ref 0), some (.ref 158), some (.int (iI y3))]) (st' := [.int (iI 4), .int (iI y3), .ref 1002000, .int (iI (scr E (((y3 + 3)).toNat))), .int (iI (scr E (((y3 + 2)).toNat))), .int (iI (scr E (((y3 + 1)).toNat))), .ref 0]) rfl ?_
  refine wp_add (a := y3) (b := 4) rfl ?_
  obtain ⟨p7, hW⟩ := hW
  refine wp_scr rfl p7 ?_
  have hr8 : rJ (scr E (((y3 + 4)).toNat)) := i32_rg _
  refine wp_g (n := 3) (pc' := 260) (L' := [some (.ref 1002000), some (.ref 0), some (.ref 158), some (.int (iI y3))]) (st' := [.int (iI 5), .int (iI y3), .ref 1002000, .int (iI (scr E (((y3 + 4)).toNat))), .int (iI (scr E (((y3 + 3)).toNat))), .int (iI (scr E (((y3 + 2)).toNat))), .int (iI (scr E (((y3 + 1)).toNat))), .ref 0]) rfl ?_
  refine wp_add (a := y3) (b := 5) rfl ?_
  obtain ⟨p9, hW⟩ := hW
  refine wp_scr rfl p9 ?_
  have hr10 : rJ (scr E (((y3 + 5)).toNat)) := i32_rg _
  refine wp_cv (As := [.int (iI (scr E (((y3 + 1)).toNat))), .int (iI (scr E (((y3 + 2)).toNat))), .int (iI (scr E (((y3 + 3)).toNat))), .int (iI (scr E (((y3 + 4)).toNat))), .int (iI (scr E (((y3 + 5)).toNat)))]) (rest := []) rfl rfl (S.cell 0 (nc rfl)) (by decide) rfl rfl rfl (Nat.le_of_ble_eq_true rfl) (Nat.le_of_ble_eq_true rfl) (hW _ S) (fun r11 H11 q11 => ?_)
  obtain ⟨v11, m11, γ11, t11, rfl, hv11, S, hW⟩ := q11
  show wp _ _ _ _ _ [.int (iI v11)] _ _
  refine wp_g (n := 4) (pc' := 269) (L' := [some (.ref 1002000), some (.ref 0), some (.ref 158), some (.int (iI y3))]) (st' := [.int (iI 1), .int (iI y3), .ref 1002000, .ref 158, .int (iI v11)]) rfl ?_
  refine wp_add (a := y3) (b := 1) rfl ?_
  refine wp_scr rfl p1 ?_
  have hr12 : rJ (scr E (((y3 + 1)).toNat)) := i32_rg _
  refine wp_g (n := 3) (pc' := 274) (L' := [some (.ref 1002000), some (.ref 0), some (.ref 158), some (.int (iI y3))]) (st' := [.int (iI 2), .int (iI y3), .ref 1002000, .int (iI (scr E (((y3 + 1)).toNat))), .ref 158, .int (iI v11)]) rfl ?_
  refine wp_add (a := y3) (b := 2) rfl ?_
  refine wp_scr rfl p3 ?_
  have hr13 : rJ (scr E (((y3 + 2)).toNat)) := i32_rg _
  refine wp_g (n := 3) (pc' := 279) (L' := [some (.ref 1002000), some (.ref 0), some (.ref 158), some (.int (iI y3))]) (st' := [.int (iI 3), .int (iI y3), .ref 1002000, .int (iI (scr E (((y3 + 2)).toNat))), .int (iI (scr E (((y3 + 1)).toNat))), .ref 158, .int (iI v11)]) rfl ?_
  refine wp_add (a := y3) (b := 3) rfl ?_
  refine wp_scr rfl p5 ?_
  have hr14 : rJ (scr E (((y3 + 3)).toNat)) := i32_rg _
  refine wp_g (n := 3) (pc' := 284) (L' := [some (.ref 1002000), some (.ref 0), some (.ref 158), some (.int (iI y3))]) (st' := [.int (iI 4), .int (iI y3), .ref 1002000, .int (iI (scr E (((y3 + 3)).toNat))), .int (iI (scr E (((y3 + 2)).toNat))), .int (iI (scr E (((y3 + 1)).toNat))), .ref 158, .int (iI v11)]) rfl ?_
  refine wp_add (a := y3) (b := 4) rfl ?_
  refine wp_scr rfl p7 ?_
  have hr15 : rJ (scr E (((y3 + 4)).toNat)) := i32_rg _
  refine wp_g (n := 3) (pc' := 289) (L' := [some (.ref 1002000), some (.ref 0), some (.ref 158), some (.int (iI y3))]) (st' := [.int (iI 5), .int (iI y3), .ref 1002000, .int (iI (scr E (((y3 + 4)).toNat))), .int (iI (scr E (((y3 + 3)).toNat))), .int (iI (scr E (((y3 + 2)).toNat))), .int (iI (scr E (((y3 + 1)).toNat))), .ref 158, .int (iI v11)]) rfl ?_
  refine wp_add (a := y3) (b := 5) rfl ?_
  refine wp_scr rfl p9 ?_
  have hr16 : rJ (scr E (((y3 + 5)).toNat)) := i32_rg _
  refine wp_cv (As := [.int (iI (scr E (((y3 + 1)).toNat))), .int (iI (scr E (((y3 + 2)).toNat))), .int (iI (scr E (((y3 + 3)).toNat))), .int (iI (scr E (((y3 + 4)).toNat))), .int (iI (scr E (((y3 + 5)).toNat)))]) (rest := [.int (iI v11)]) rfl rfl (S.cell 158 (nc rfl)) (by decide) rfl rfl rfl (Nat.le_of_ble_eq_true rfl) (Nat.le_of_ble_eq_true rfl) (hW _ S) (fun r17 H17 q17 => ?_)
  obtain ⟨v17, m17, γ17, t17, rfl, hv17, S, hW⟩ := q17
  show wp _ _ _ _ _ [.int (iI v17), .int (iI v11)] _ _
  refine wp_icmpI (a := v11) (b := v17) rfl rfl hv11.1 hv11.2 hv17.1 hv17.2 (fun c18 => ?_) (fun c18 => ?_)
  · have dc18 := c18
    have hW := hW.1 dc18
    exact hW _ S
  · have dc18 := c18
    have hW := hW.2 dc18
    refine wp_g (n := 1) (pc' := 298) (L' := [some (.ref 1002000), some (.ref 0), some (.ref 158), some (.int (iI y3))]) (st' := [.int (iI 0)]) rfl ?_
    exact wp_zret rfl rfl (by decide) ⟨_, _, _, _, rfl, (by decide), S, hW⟩
set_option maxRecDepth 100000 in
theorem vc_L_law_299 {E : am_E} {k : Nat} {y3 : Int} {m : MM} {γ : GM} {t : am_H} {Q : Int → MM → GM → am_H → Prop} (hy3 : rJ y3) (hW : W_L_law_299 E k y3 m γ t Q) : hd_L_law_299 E k y3 m γ t Q := by
  unfold W_L_law_299 at hW
  intro h S
  refine wp_g (n := 4) (pc' := 303) (L' := [some (.ref 1002000), some (.ref 0), some (.ref 158), some (.int (iI y3))]) (st' := [.int (iI 1), .int (iI y3), .ref 1002000, .ref 0]) rfl ?_
  refine wp_add (a := y3) (b := 1) rfl ?_
  obtain ⟨p1, hW⟩ := hW
  refine wp_scr rfl p1 ?_
  have hr2 : rJ (scr E (((y3 + 1)).toNat)) := i32_rg _
  refine wp_cv (As := [.int (iI (scr E (((y3 + 1)).toNat)))]) (rest := []) rfl rfl (S.cell 0 (nc rfl)) (by decide) rfl rfl rfl (Nat.le_of_ble_eq_true rfl) (Nat.le_of_ble_eq_true rfl) (hW _ S) (fun r3 H3 q3 => ?_)
  obtain ⟨v3, m3, γ3, t3, rfl, hv3, S, hW⟩ := q3
  show wp _ _ _ _ _ [.int (iI v3)] _ _
  refine wp_g (n := 4) (pc' := 312) (L' := [some (.ref 1002000), some (.ref 0), some (.ref 158), some (.int (iI y3))]) (st' := [.int (iI 1), .int (iI y3), .ref 1002000, .ref 158, .int (iI v3)]) rfl ?_
  refine wp_add (a := y3) (b := 1) rfl ?_
  refine wp_scr rfl p1 ?_
  have hr4 : rJ (scr E (((y3 + 1)).toNat)) := i32_rg _
  refine wp_cv (As := [.int (iI (scr E (((y3 + 1)).toNat)))]) (rest := [.int (iI v3)]) rfl rfl (S.cell 158 (nc rfl)) (by decide) rfl rfl rfl (Nat.le_of_ble_eq_true rfl) (Nat.le_of_ble_eq_true rfl) (hW _ S) (fun r5 H5 q5 => ?_)
  obtain ⟨v5, m5, γ5, t5, rfl, hv5, S, hW⟩ := q5
  show wp _ _ _ _ _ [.int (iI v5), .int (iI v3)] _ _
  refine wp_icmpI (a := v3) (b := v5) rfl rfl hv3.1 hv3.2 hv5.1 hv5.2 (fun c6 => ?_) (fun c6 => ?_)
  · have dc6 := c6
    have hW := hW.1 dc6
    exact hW _ S
  · have dc6 := c6
    have hW := hW.2 dc6
    refine wp_g (n := 1) (pc' := 321) (L' := [some (.ref 1002000), some (.ref 0), some (.ref 158), some (.int (iI y3))]) (st' := [.int (iI 0)]) rfl ?_
    exact wp_zret rfl rfl (by decide) ⟨_, _, _, _, rfl, (by decide), S, hW⟩
set_option maxRecDepth 100000 in
theorem vc_L_law_322 {E : am_E} {k : Nat} {y3 : Int} {m : MM} {γ : GM} {t : am_H} {Q : Int → MM → GM → am_H → Prop} (hy3 : rJ y3) (hW : W_L_law_322 E k y3 m γ t Q) : hd_L_law_322 E k y3 m γ t Q := by
  unfold W_L_law_322 at hW
  intro h S
  refine wp_g (n := 4) (pc' := 326) (L' := [some (.ref 1002000), some (.ref 0), some (.ref 158), some (.int (iI y3))]) (st' := [.int (iI 1), .int (iI y3), .ref 1002000, .ref 0]) rfl ?_
  refine wp_add (a := y3) (b := 1) rfl ?_
  obtain ⟨p1, hW⟩ := hW
  refine wp_scr rfl p1 ?_
  have hr2 : rJ (scr E (((y3 + 1)).toNat)) := i32_rg _
  refine wp_cv (As := [.int (iI (scr E (((y3 + 1)).toNat)))]) (rest := []) rfl rfl (S.cell 0 (nc rfl)) (by decide) rfl rfl rfl (Nat.le_of_ble_eq_true rfl) (Nat.le_of_ble_eq_true rfl) (hW _ S) (fun r3 H3 q3 => ?_)
  obtain ⟨v3, m3, γ3, t3, rfl, hv3, S, hW⟩ := q3
  show wp _ _ _ _ _ [.int (iI v3)] _ _
  refine wp_g (n := 4) (pc' := 335) (L' := [some (.ref 1002000), some (.ref 0), some (.ref 158), some (.int (iI y3))]) (st' := [.int (iI 1), .int (iI y3), .ref 1002000, .ref 158, .int (iI v3)]) rfl ?_
  refine wp_add (a := y3) (b := 1) rfl ?_
  refine wp_scr rfl p1 ?_
  have hr4 : rJ (scr E (((y3 + 1)).toNat)) := i32_rg _
  refine wp_cv (As := [.int (iI (scr E (((y3 + 1)).toNat)))]) (rest := [.int (iI v3)]) rfl rfl (S.cell 158 (nc rfl)) (by decide) rfl rfl rfl (Nat.le_of_ble_eq_true rfl) (Nat.le_of_ble_eq_true rfl) (hW _ S) (fun r5 H5 q5 => ?_)
  obtain ⟨v5, m5, γ5, t5, rfl, hv5, S, hW⟩ := q5
  show wp _ _ _ _ _ [.int (iI v5), .int (iI v3)] _ _
  refine wp_icmpI (a := v3) (b := v5) rfl rfl hv3.1 hv3.2 hv5.1 hv5.2 (fun c6 => ?_) (fun c6 => ?_)
  · have dc6 := c6
    have hW := hW.1 dc6
    exact hW _ S
  · have dc6 := c6
    have hW := hW.2 dc6
    refine wp_g (n := 1) (pc' := 344) (L' := [some (.ref 1002000), some (.ref 0), some (.ref 158), some (.int (iI y3))]) (st' := [.int (iI 0)]) rfl ?_
    exact wp_zret rfl rfl (by decide) ⟨_, _, _, _, rfl, (by decide), S, hW⟩
set_option maxRecDepth 100000 in
theorem vc_L_law_345 {E : am_E} {k : Nat} {y3 : Int} {m : MM} {γ : GM} {t : am_H} {Q : Int → MM → GM → am_H → Prop} (hy3 : rJ y3) (hW : W_L_law_345 E k y3 m γ t Q) : hd_L_law_345 E k y3 m γ t Q := by
  unfold W_L_law_345 at hW
  intro h S
  refine wp_g (n := 4) (pc' := 349) (L' := [some (.ref 1002000), some (.ref 0), some (.ref 158), some (.int (iI y3))]) (st' := [.int (iI 1), .int (iI y3), .ref 1002000, .ref 0]) rfl ?_
  refine wp_add (a := y3) (b := 1) rfl ?_
  obtain ⟨p1, hW⟩ := hW
  refine wp_scr rfl p1 ?_
  have hr2 : rJ (scr E (((y3 + 1)).toNat)) := i32_rg _
  refine wp_cv (As := [.int (iI (scr E (((y3 + 1)).toNat)))]) (rest := []) rfl rfl (S.cell 0 (nc rfl)) (by decide) rfl rfl rfl (Nat.le_of_ble_eq_true rfl) (Nat.le_of_ble_eq_true rfl) (hW _ S) (fun r3 H3 q3 => ?_)
  obtain ⟨v3, m3, γ3, t3, rfl, hv3, S, hW⟩ := q3
  show wp _ _ _ _ _ [.int (iI v3)] _ _
  refine wp_g (n := 4) (pc' := 358) (L' := [some (.ref 1002000), some (.ref 0), some (.ref 158), some (.int (iI y3))]) (st' := [.int (iI 1), .int (iI y3), .ref 1002000, .ref 158, .int (iI v3)]) rfl ?_
  refine wp_add (a := y3) (b := 1) rfl ?_
  refine wp_scr rfl p1 ?_
  have hr4 : rJ (scr E (((y3 + 1)).toNat)) := i32_rg _
  refine wp_cv (As := [.int (iI (scr E (((y3 + 1)).toNat)))]) (rest := [.int (iI v3)]) rfl rfl (S.cell 158 (nc rfl)) (by decide) rfl rfl rfl (Nat.le_of_ble_eq_true rfl) (Nat.le_of_ble_eq_true rfl) (hW _ S) (fun r5 H5 q5 => ?_)
  obtain ⟨v5, m5, γ5, t5, rfl, hv5, S, hW⟩ := q5
  show wp _ _ _ _ _ [.int (iI v5), .int (iI v3)] _ _
  refine wp_icmpI (a := v3) (b := v5) rfl rfl hv3.1 hv3.2 hv5.1 hv5.2 (fun c6 => ?_) (fun c6 => ?_)
  · have dc6 := c6
    have hW := hW.1 dc6
    exact hW _ S
  · have dc6 := c6
    have hW := hW.2 dc6
    refine wp_g (n := 1) (pc' := 367) (L' := [some (.ref 1002000), some (.ref 0), some (.ref 158), some (.int (iI y3))]) (st' := [.int (iI 0)]) rfl ?_
    exact wp_zret rfl rfl (by decide) ⟨_, _, _, _, rfl, (by decide), S, hW⟩
set_option maxRecDepth 100000 in
theorem vc_L_law_368 {E : am_E} {k : Nat} {y3 : Int} {m : MM} {γ : GM} {t : am_H} {Q : Int → MM → GM → am_H → Prop} (hy3 : rJ y3) (hW : W_L_law_368 E k y3 m γ t Q) : hd_L_law_368 E k y3 m γ t Q := by
  unfold W_L_law_368 at hW
  intro h S
  refine wp_g (n := 4) (pc' := 372) (L' := [some (.ref 1002000), some (.ref 0), some (.ref 158), some (.int (iI y3))]) (st' := [.int (iI 1), .int (iI y3), .ref 1002000, .ref 0]) rfl ?_
  refine wp_add (a := y3) (b := 1) rfl ?_
  obtain ⟨p1, hW⟩ := hW
  refine wp_scr rfl p1 ?_
  have hr2 : rJ (scr E (((y3 + 1)).toNat)) := i32_rg _
  refine wp_cv (As := [.int (iI (scr E (((y3 + 1)).toNat)))]) (rest := []) rfl rfl (S.cell 0 (nc rfl)) (by decide) rfl rfl rfl (Nat.le_of_ble_eq_true rfl) (Nat.le_of_ble_eq_true rfl) (hW _ S) (fun r3 H3 q3 => ?_)
  obtain ⟨v3, m3, γ3, t3, rfl, hv3, S, hW⟩ := q3
  show wp _ _ _ _ _ [.int (iI v3)] _ _
  refine wp_g (n := 4) (pc' := 381) (L' := [some (.ref 1002000), some (.ref 0), some (.ref 158), some (.int (iI y3))]) (st' := [.int (iI 1), .int (iI y3), .ref 1002000, .ref 158, .int (iI v3)]) rfl ?_
  refine wp_add (a := y3) (b := 1) rfl ?_
  refine wp_scr rfl p1 ?_
  have hr4 : rJ (scr E (((y3 + 1)).toNat)) := i32_rg _
  refine wp_cv (As := [.int (iI (scr E (((y3 + 1)).toNat)))]) (rest := [.int (iI v3)]) rfl rfl (S.cell 158 (nc rfl)) (by decide) rfl rfl rfl (Nat.le_of_ble_eq_true rfl) (Nat.le_of_ble_eq_true rfl) (hW _ S) (fun r5 H5 q5 => ?_)
  obtain ⟨v5, m5, γ5, t5, rfl, hv5, S, hW⟩ := q5
  show wp _ _ _ _ _ [.int (iI v5), .int (iI v3)] _ _
  refine wp_icmpI (a := v3) (b := v5) rfl rfl hv3.1 hv3.2 hv5.1 hv5.2 (fun c6 => ?_) (fun c6 => ?_)
  · have dc6 := c6
    have hW := hW.1 dc6
    exact hW _ S
  · have dc6 := c6
    have hW := hW.2 dc6
    refine wp_g (n := 1) (pc' := 390) (L' := [some (.ref 1002000), some (.ref 0), some (.ref 158), some (.int (iI y3))]) (st' := [.int (iI 0)]) rfl ?_
    exact wp_zret rfl rfl (by decide) ⟨_, _, _, _, rfl, (by decide), S, hW⟩
set_option maxRecDepth 100000 in
theorem vc_L_law_391 {E : am_E} {k : Nat} {y3 : Int} {m : MM} {γ : GM} {t : am_H} {Q : Int → MM → GM → am_H → Prop} (hy3 : rJ y3) (hW : W_L_law_391 E k y3 m γ t Q) : hd_L_law_391 E k y3 m γ t Q := by
  unfold W_L_law_391 at hW
  intro h S
  refine wp_g (n := 4) (pc' := 395) (L' := [some (.ref 1002000), some (.ref 0), some (.ref 158), some (.int (iI y3))]) (st' := [.int (iI 1), .int (iI y3), .ref 1002000, .ref 0]) rfl ?_
  refine wp_add (a := y3) (b := 1) rfl ?_
  obtain ⟨p1, hW⟩ := hW
  refine wp_scr rfl p1 ?_
  have hr2 : rJ (scr E (((y3 + 1)).toNat)) := i32_rg _
  refine wp_g (n := 3) (pc' := 400) (L' := [some (.ref 1002000), some (.ref 0), some (.ref 158), some (.int (iI y3))]) (st' := [.int (iI 2), .int (iI y3), .ref 1002000, .int (iI (scr E (((y3 + 1)).toNat))), .ref 0]) rfl ?_
  refine wp_add (a := y3) (b := 2) rfl ?_
  obtain ⟨p3, hW⟩ := hW
  refine wp_scr rfl p3 ?_
  have hr4 : rJ (scr E (((y3 + 2)).toNat)) := i32_rg _
  refine wp_cv (As := [.int (iI (scr E (((y3 + 1)).toNat))), .int (iI (scr E (((y3 + 2)).toNat)))]) (rest := []) rfl rfl (S.cell 0 (nc rfl)) (by decide) rfl rfl rfl (Nat.le_of_ble_eq_true rfl) (Nat.le_of_ble_eq_true rfl) (hW _ S) (fun r5 H5 q5 => ?_)
  obtain ⟨v5, m5, γ5, t5, rfl, hv5, S, hW⟩ := q5
  show wp _ _ _ _ _ [.int (iI v5)] _ _
  refine wp_g (n := 4) (pc' := 409) (L' := [some (.ref 1002000), some (.ref 0), some (.ref 158), some (.int (iI y3))]) (st' := [.int (iI 1), .int (iI y3), .ref 1002000, .ref 158, .int (iI v5)]) rfl ?_
  refine wp_add (a := y3) (b := 1) rfl ?_
  refine wp_scr rfl p1 ?_
  have hr6 : rJ (scr E (((y3 + 1)).toNat)) := i32_rg _
  refine wp_g (n := 3) (pc' := 414) (L' := [some (.ref 1002000), some (.ref 0), some (.ref 158), some (.int (iI y3))]) (st' := [.int (iI 2), .int (iI y3), .ref 1002000, .int (iI (scr E (((y3 + 1)).toNat))), .ref 158, .int (iI v5)]) rfl ?_
  refine wp_add (a := y3) (b := 2) rfl ?_
  refine wp_scr rfl p3 ?_
  have hr7 : rJ (scr E (((y3 + 2)).toNat)) := i32_rg _
  refine wp_cv (As := [.int (iI (scr E (((y3 + 1)).toNat))), .int (iI (scr E (((y3 + 2)).toNat)))]) (rest := [.int (iI v5)]) rfl rfl (S.cell 158 (nc rfl)) (by decide) rfl rfl rfl (Nat.le_of_ble_eq_true rfl) (Nat.le_of_ble_eq_true rfl) (hW _ S) (fun r8 H8 q8 => ?_)
  obtain ⟨v8, m8, γ8, t8, rfl, hv8, S, hW⟩ := q8
  show wp _ _ _ _ _ [.int (iI v8), .int (iI v5)] _ _
  refine wp_icmpI (a := v5) (b := v8) rfl rfl hv5.1 hv5.2 hv8.1 hv8.2 (fun c9 => ?_) (fun c9 => ?_)
  · have dc9 := c9
    have hW := hW.1 dc9
    exact hW _ S
  · have dc9 := c9
    have hW := hW.2 dc9
    refine wp_g (n := 1) (pc' := 423) (L' := [some (.ref 1002000), some (.ref 0), some (.ref 158), some (.int (iI y3))]) (st' := [.int (iI 0)]) rfl ?_
    exact wp_zret rfl rfl (by decide) ⟨_, _, _, _, rfl, (by decide), S, hW⟩
set_option maxRecDepth 100000 in
theorem vc_L_law_424 {E : am_E} {k : Nat} {y3 : Int} {m : MM} {γ : GM} {t : am_H} {Q : Int → MM → GM → am_H → Prop} (hy3 : rJ y3) (hW : W_L_law_424 E k y3 m γ t Q) : hd_L_law_424 E k y3 m γ t Q := by
  unfold W_L_law_424 at hW
  intro h S
  refine wp_g (n := 4) (pc' := 428) (L' := [some (.ref 1002000), some (.ref 0), some (.ref 158), some (.int (iI y3))]) (st' := [.int (iI 1), .int (iI y3), .ref 1002000, .ref 0]) rfl ?_
  refine wp_add (a := y3) (b := 1) rfl ?_
  obtain ⟨p1, hW⟩ := hW
  refine wp_scr rfl p1 ?_
  have hr2 : rJ (scr E (((y3 + 1)).toNat)) := i32_rg _
  refine wp_g (n := 3) (pc' := 433) (L' := [some (.ref 1002000), some (.ref 0), some (.ref 158), some (.int (iI y3))]) (st' := [.int (iI 2), .int (iI y3), .ref 1002000, .int (iI (scr E (((y3 + 1)).toNat))), .ref 0]) rfl ?_
  refine wp_add (a := y3) (b := 2) rfl ?_
  obtain ⟨p3, hW⟩ := hW
  refine wp_scr rfl p3 ?_
  have hr4 : rJ (scr E (((y3 + 2)).toNat)) := i32_rg _
  refine wp_cv (As := [.int (iI (scr E (((y3 + 1)).toNat))), .int (iI (scr E (((y3 + 2)).toNat)))]) (rest := []) rfl rfl (S.cell 0 (nc rfl)) (by decide) rfl rfl rfl (Nat.le_of_ble_eq_true rfl) (Nat.le_of_ble_eq_true rfl) (hW _ S) (fun r5 H5 q5 => ?_)
  obtain ⟨v5, m5, γ5, t5, rfl, hv5, S, hW⟩ := q5
  show wp _ _ _ _ _ [.int (iI v5)] _ _
  refine wp_g (n := 4) (pc' := 442) (L' := [some (.ref 1002000), some (.ref 0), some (.ref 158), some (.int (iI y3))]) (st' := [.int (iI 1), .int (iI y3), .ref 1002000, .ref 158, .int (iI v5)]) rfl ?_
  refine wp_add (a := y3) (b := 1) rfl ?_
  refine wp_scr rfl p1 ?_
  have hr6 : rJ (scr E (((y3 + 1)).toNat)) := i32_rg _
  refine wp_g (n := 3) (pc' := 447) (L' := [some (.ref 1002000), some (.ref 0), some (.ref 158), some (.int (iI y3))]) (st' := [.int (iI 2), .int (iI y3), .ref 1002000, .int (iI (scr E (((y3 + 1)).toNat))), .ref 158, .int (iI v5)]) rfl ?_
  refine wp_add (a := y3) (b := 2) rfl ?_
  refine wp_scr rfl p3 ?_
  have hr7 : rJ (scr E (((y3 + 2)).toNat)) := i32_rg _
  refine wp_cv (As := [.int (iI (scr E (((y3 + 1)).toNat))), .int (iI (scr E (((y3 + 2)).toNat)))]) (rest := [.int (iI v5)]) rfl rfl (S.cell 158 (nc rfl)) (by decide) rfl rfl rfl (Nat.le_of_ble_eq_true rfl) (Nat.le_of_ble_eq_true rfl) (hW _ S) (fun r8 H8 q8 => ?_)
  obtain ⟨v8, m8, γ8, t8, rfl, hv8, S, hW⟩ := q8
  show wp _ _ _ _ _ [.int (iI v8), .int (iI v5)] _ _
  refine wp_icmpI (a := v5) (b := v8) rfl rfl hv5.1 hv5.2 hv8.1 hv8.2 (fun c9 => ?_) (fun c9 => ?_)
  · have dc9 := c9
    have hW := hW.1 dc9
    exact hW _ S
  · have dc9 := c9
    have hW := hW.2 dc9
    refine wp_g (n := 1) (pc' := 456) (L' := [some (.ref 1002000), some (.ref 0), some (.ref 158), some (.int (iI y3))]) (st' := [.int (iI 0)]) rfl ?_
    exact wp_zret rfl rfl (by decide) ⟨_, _, _, _, rfl, (by decide), S, hW⟩
set_option maxRecDepth 100000 in
theorem vc_L_law_457 {E : am_E} {k : Nat} {y3 : Int} {m : MM} {γ : GM} {t : am_H} {Q : Int → MM → GM → am_H → Prop} (hy3 : rJ y3) (hW : W_L_law_457 E k y3 m γ t Q) : hd_L_law_457 E k y3 m γ t Q := by
  unfold W_L_law_457 at hW
  intro h S
  refine wp_g (n := 4) (pc' := 461) (L' := [some (.ref 1002000), some (.ref 0), some (.ref 158), some (.int (iI y3))]) (st' := [.int (iI 1), .int (iI y3), .ref 1002000, .ref 0]) rfl ?_
  refine wp_add (a := y3) (b := 1) rfl ?_
  obtain ⟨p1, hW⟩ := hW
  refine wp_scr rfl p1 ?_
  have hr2 : rJ (scr E (((y3 + 1)).toNat)) := i32_rg _
  refine wp_g (n := 3) (pc' := 466) (L' := [some (.ref 1002000), some (.ref 0), some (.ref 158), some (.int (iI y3))]) (st' := [.int (iI 2), .int (iI y3), .ref 1002000, .int (iI (scr E (((y3 + 1)).toNat))), .ref 0]) rfl ?_
  refine wp_add (a := y3) (b := 2) rfl ?_
  obtain ⟨p3, hW⟩ := hW
  refine wp_scr rfl p3 ?_
  have hr4 : rJ (scr E (((y3 + 2)).toNat)) := i32_rg _
  refine wp_g (n := 3) (pc' := 471) (L' := [some (.ref 1002000), some (.ref 0), some (.ref 158), some (.int (iI y3))]) (st' := [.int (iI 3), .int (iI y3), .ref 1002000, .int (iI (scr E (((y3 + 2)).toNat))), .int (iI (scr E (((y3 + 1)).toNat))), .ref 0]) rfl ?_
  refine wp_add (a := y3) (b := 3) rfl ?_
  obtain ⟨p5, hW⟩ := hW
  refine wp_scr rfl p5 ?_
  have hr6 : rJ (scr E (((y3 + 3)).toNat)) := i32_rg _
  refine wp_cv (As := [.int (iI (scr E (((y3 + 1)).toNat))), .int (iI (scr E (((y3 + 2)).toNat))), .int (iI (scr E (((y3 + 3)).toNat)))]) (rest := []) rfl rfl (S.cell 0 (nc rfl)) (by decide) rfl rfl rfl (Nat.le_of_ble_eq_true rfl) (Nat.le_of_ble_eq_true rfl) (hW _ S) (fun r7 H7 q7 => ?_)
  obtain ⟨v7, m7, γ7, t7, rfl, hv7, S, hW⟩ := q7
  show wp _ _ _ _ _ [.int (iI v7)] _ _
  refine wp_g (n := 4) (pc' := 480) (L' := [some (.ref 1002000), some (.ref 0), some (.ref 158), some (.int (iI y3))]) (st' := [.int (iI 1), .int (iI y3), .ref 1002000, .ref 158, .int (iI v7)]) rfl ?_
  refine wp_add (a := y3) (b := 1) rfl ?_
  refine wp_scr rfl p1 ?_
  have hr8 : rJ (scr E (((y3 + 1)).toNat)) := i32_rg _
  refine wp_g (n := 3) (pc' := 485) (L' := [some (.ref 1002000), some (.ref 0), some (.ref 158), some (.int (iI y3))]) (st' := [.int (iI 2), .int (iI y3), .ref 1002000, .int (iI (scr E (((y3 + 1)).toNat))), .ref 158, .int (iI v7)]) rfl ?_
  refine wp_add (a := y3) (b := 2) rfl ?_
  refine wp_scr rfl p3 ?_
  have hr9 : rJ (scr E (((y3 + 2)).toNat)) := i32_rg _
  refine wp_g (n := 3) (pc' := 490) (L' := [some (.ref 1002000), some (.ref 0), some (.ref 158), some (.int (iI y3))]) (st' := [.int (iI 3), .int (iI y3), .ref 1002000, .int (iI (scr E (((y3 + 2)).toNat))), .int (iI (scr E (((y3 + 1)).toNat))), .ref 158, .int (iI v7)]) rfl ?_
  refine wp_add (a := y3) (b := 3) rfl ?_
  refine wp_scr rfl p5 ?_
  have hr10 : rJ (scr E (((y3 + 3)).toNat)) := i32_rg _
  refine wp_cv (As := [.int (iI (scr E (((y3 + 1)).toNat))), .int (iI (scr E (((y3 + 2)).toNat))), .int (iI (scr E (((y3 + 3)).toNat)))]) (rest := [.int (iI v7)]) rfl rfl (S.cell 158 (nc rfl)) (by decide) rfl rfl rfl (Nat.le_of_ble_eq_true rfl) (Nat.le_of_ble_eq_true rfl) (hW _ S) (fun r11 H11 q11 => ?_)
  obtain ⟨v11, m11, γ11, t11, rfl, hv11, S, hW⟩ := q11
  show wp _ _ _ _ _ [.int (iI v11), .int (iI v7)] _ _
  refine wp_icmpI (a := v7) (b := v11) rfl rfl hv7.1 hv7.2 hv11.1 hv11.2 (fun c12 => ?_) (fun c12 => ?_)
  · have dc12 := c12
    have hW := hW.1 dc12
    exact hW _ S
  · have dc12 := c12
    have hW := hW.2 dc12
    refine wp_g (n := 1) (pc' := 499) (L' := [some (.ref 1002000), some (.ref 0), some (.ref 158), some (.int (iI y3))]) (st' := [.int (iI 0)]) rfl ?_
    exact wp_zret rfl rfl (by decide) ⟨_, _, _, _, rfl, (by decide), S, hW⟩
set_option maxRecDepth 100000 in
theorem vc_L_law_500 {E : am_E} {k : Nat} {y3 : Int} {m : MM} {γ : GM} {t : am_H} {Q : Int → MM → GM → am_H → Prop} (hy3 : rJ y3) (hW : W_L_law_500 E k y3 m γ t Q) : hd_L_law_500 E k y3 m γ t Q := by
  unfold W_L_law_500 at hW
  intro h S
  refine wp_g (n := 4) (pc' := 504) (L' := [some (.ref 1002000), some (.ref 0), some (.ref 158), some (.int (iI y3))]) (st' := [.int (iI 1), .int (iI y3), .ref 1002000, .ref 0]) rfl ?_
  refine wp_add (a := y3) (b := 1) rfl ?_
  obtain ⟨p1, hW⟩ := hW
  refine wp_scr rfl p1 ?_
  have hr2 : rJ (scr E (((y3 + 1)).toNat)) := i32_rg _
  refine wp_g (n := 3) (pc' := 509) (L' := [some (.ref 1002000), some (.ref 0), some (.ref 158), some (.int (iI y3))]) (st' := [.int (iI 2), .int (iI y3), .ref 1002000, .int (iI (scr E (((y3 + 1)).toNat))), .ref 0]) rfl ?_
  refine wp_add (a := y3) (b := 2) rfl ?_
  obtain ⟨p3, hW⟩ := hW
  refine wp_scr rfl p3 ?_
  have hr4 : rJ (scr E (((y3 + 2)).toNat)) := i32_rg _
  refine wp_g (n := 3) (pc' := 514) (L' := [some (.ref 1002000), some (.ref 0), some (.ref 158), some (.int (iI y3))]) (st' := [.int (iI 3), .int (iI y3), .ref 1002000, .int (iI (scr E (((y3 + 2)).toNat))), .int (iI (scr E (((y3 + 1)).toNat))), .ref 0]) rfl ?_
  refine wp_add (a := y3) (b := 3) rfl ?_
  obtain ⟨p5, hW⟩ := hW
  refine wp_scr rfl p5 ?_
  have hr6 : rJ (scr E (((y3 + 3)).toNat)) := i32_rg _
  refine wp_cv (As := [.int (iI (scr E (((y3 + 1)).toNat))), .int (iI (scr E (((y3 + 2)).toNat))), .int (iI (scr E (((y3 + 3)).toNat)))]) (rest := []) rfl rfl (S.cell 0 (nc rfl)) (by decide) rfl rfl rfl (Nat.le_of_ble_eq_true rfl) (Nat.le_of_ble_eq_true rfl) (hW _ S) (fun r7 H7 q7 => ?_)
  obtain ⟨v7, m7, γ7, t7, rfl, hv7, S, hW⟩ := q7
  show wp _ _ _ _ _ [.int (iI v7)] _ _
  refine wp_g (n := 4) (pc' := 523) (L' := [some (.ref 1002000), some (.ref 0), some (.ref 158), some (.int (iI y3))]) (st' := [.int (iI 1), .int (iI y3), .ref 1002000, .ref 158, .int (iI v7)]) rfl ?_
  refine wp_add (a := y3) (b := 1) rfl ?_
  refine wp_scr rfl p1 ?_
  have hr8 : rJ (scr E (((y3 + 1)).toNat)) := i32_rg _
  refine wp_g (n := 3) (pc' := 528) (L' := [some (.ref 1002000), some (.ref 0), some (.ref 158), some (.int (iI y3))]) (st' := [.int (iI 2), .int (iI y3), .ref 1002000, .int (iI (scr E (((y3 + 1)).toNat))), .ref 158, .int (iI v7)]) rfl ?_
  refine wp_add (a := y3) (b := 2) rfl ?_
  refine wp_scr rfl p3 ?_
  have hr9 : rJ (scr E (((y3 + 2)).toNat)) := i32_rg _
  refine wp_g (n := 3) (pc' := 533) (L' := [some (.ref 1002000), some (.ref 0), some (.ref 158), some (.int (iI y3))]) (st' := [.int (iI 3), .int (iI y3), .ref 1002000, .int (iI (scr E (((y3 + 2)).toNat))), .int (iI (scr E (((y3 + 1)).toNat))), .ref 158, .int (iI v7)]) rfl ?_
  refine wp_add (a := y3) (b := 3) rfl ?_
  refine wp_scr rfl p5 ?_
  have hr10 : rJ (scr E (((y3 + 3)).toNat)) := i32_rg _
  refine wp_cv (As := [.int (iI (scr E (((y3 + 1)).toNat))), .int (iI (scr E (((y3 + 2)).toNat))), .int (iI (scr E (((y3 + 3)).toNat)))]) (rest := [.int (iI v7)]) rfl rfl (S.cell 158 (nc rfl)) (by decide) rfl rfl rfl (Nat.le_of_ble_eq_true rfl) (Nat.le_of_ble_eq_true rfl) (hW _ S) (fun r11 H11 q11 => ?_)
  obtain ⟨v11, m11, γ11, t11, rfl, hv11, S, hW⟩ := q11
  show wp _ _ _ _ _ [.int (iI v11), .int (iI v7)] _ _
  refine wp_icmpI (a := v7) (b := v11) rfl rfl hv7.1 hv7.2 hv11.1 hv11.2 (fun c12 => ?_) (fun c12 => ?_)
  · have dc12 := c12
    have hW := hW.1 dc12
    exact hW _ S
  · have dc12 := c12
    have hW := hW.2 dc12
    refine wp_g (n := 1) (pc' := 542) (L' := [some (.ref 1002000), some (.ref 0), some (.ref 158), some (.int (iI y3))]) (st' := [.int (iI 0)]) rfl ?_
    exact wp_zret rfl rfl (by decide) ⟨_, _, _, _, rfl, (by decide), S, hW⟩
set_option maxRecDepth 100000 in
theorem vc_L_law_543 {E : am_E} {k : Nat} {y3 : Int} {m : MM} {γ : GM} {t : am_H} {Q : Int → MM → GM → am_H → Prop} (hy3 : rJ y3) (hW : W_L_law_543 E k y3 m γ t Q) : hd_L_law_543 E k y3 m γ t Q := by
  unfold W_L_law_543 at hW
  intro h S
  refine wp_g (n := 4) (pc' := 547) (L' := [some (.ref 1002000), some (.ref 0), some (.ref 158), some (.int (iI y3))]) (st' := [.int (iI 1), .int (iI y3), .ref 1002000, .ref 0]) rfl ?_
  refine wp_add (a := y3) (b := 1) rfl ?_
  obtain ⟨p1, hW⟩ := hW
  refine wp_scr rfl p1 ?_
  have hr2 : rJ (scr E (((y3 + 1)).toNat)) := i32_rg _
  refine wp_g (n := 3) (pc' := 552) (L' := [some (.ref 1002000), some (.ref 0), some (.ref 158), some (.int (iI y3))]) (st' := [.int (iI 2), .int (iI y3), .ref 1002000, .int (iI (scr E (((y3 + 1)).toNat))), .ref 0]) rfl ?_
  refine wp_add (a := y3) (b := 2) rfl ?_
  obtain ⟨p3, hW⟩ := hW
  refine wp_scr rfl p3 ?_
  have hr4 : rJ (scr E (((y3 + 2)).toNat)) := i32_rg _
  refine wp_g (n := 3) (pc' := 557) (L' := [some (.ref 1002000), some (.ref 0), some (.ref 158), some (.int (iI y3))]) (st' := [.int (iI 3), .int (iI y3), .ref 1002000, .int (iI (scr E (((y3 + 2)).toNat))), .int (iI (scr E (((y3 + 1)).toNat))), .ref 0]) rfl ?_
  refine wp_add (a := y3) (b := 3) rfl ?_
  obtain ⟨p5, hW⟩ := hW
  refine wp_scr rfl p5 ?_
  have hr6 : rJ (scr E (((y3 + 3)).toNat)) := i32_rg _
  refine wp_cv (As := [.int (iI (scr E (((y3 + 1)).toNat))), .int (iI (scr E (((y3 + 2)).toNat))), .int (iI (scr E (((y3 + 3)).toNat)))]) (rest := []) rfl rfl (S.cell 0 (nc rfl)) (by decide) rfl rfl rfl (Nat.le_of_ble_eq_true rfl) (Nat.le_of_ble_eq_true rfl) (hW _ S) (fun r7 H7 q7 => ?_)
  obtain ⟨v7, m7, γ7, t7, rfl, hv7, S, hW⟩ := q7
  show wp _ _ _ _ _ [.int (iI v7)] _ _
  refine wp_g (n := 4) (pc' := 566) (L' := [some (.ref 1002000), some (.ref 0), some (.ref 158), some (.int (iI y3))]) (st' := [.int (iI 1), .int (iI y3), .ref 1002000, .ref 158, .int (iI v7)]) rfl ?_
  refine wp_add (a := y3) (b := 1) rfl ?_
  refine wp_scr rfl p1 ?_
  have hr8 : rJ (scr E (((y3 + 1)).toNat)) := i32_rg _
  refine wp_g (n := 3) (pc' := 571) (L' := [some (.ref 1002000), some (.ref 0), some (.ref 158), some (.int (iI y3))]) (st' := [.int (iI 2), .int (iI y3), .ref 1002000, .int (iI (scr E (((y3 + 1)).toNat))), .ref 158, .int (iI v7)]) rfl ?_
  refine wp_add (a := y3) (b := 2) rfl ?_
  refine wp_scr rfl p3 ?_
  have hr9 : rJ (scr E (((y3 + 2)).toNat)) := i32_rg _
  refine wp_g (n := 3) (pc' := 576) (L' := [some (.ref 1002000), some (.ref 0), some (.ref 158), some (.int (iI y3))]) (st' := [.int (iI 3), .int (iI y3), .ref 1002000, .int (iI (scr E (((y3 + 2)).toNat))), .int (iI (scr E (((y3 + 1)).toNat))), .ref 158, .int (iI v7)]) rfl ?_
  refine wp_add (a := y3) (b := 3) rfl ?_
  refine wp_scr rfl p5 ?_
  have hr10 : rJ (scr E (((y3 + 3)).toNat)) := i32_rg _
  refine wp_cv (As := [.int (iI (scr E (((y3 + 1)).toNat))), .int (iI (scr E (((y3 + 2)).toNat))), .int (iI (scr E (((y3 + 3)).toNat)))]) (rest := [.int (iI v7)]) rfl rfl (S.cell 158 (nc rfl)) (by decide) rfl rfl rfl (Nat.le_of_ble_eq_true rfl) (Nat.le_of_ble_eq_true rfl) (hW _ S) (fun r11 H11 q11 => ?_)
  obtain ⟨v11, m11, γ11, t11, rfl, hv11, S, hW⟩ := q11
  show wp _ _ _ _ _ [.int (iI v11), .int (iI v7)] _ _
  refine wp_icmpI (a := v7) (b := v11) rfl rfl hv7.1 hv7.2 hv11.1 hv11.2 (fun c12 => ?_) (fun c12 => ?_)
  · have dc12 := c12
    have hW := hW.1 dc12
    exact hW _ S
  · have dc12 := c12
    have hW := hW.2 dc12
    refine wp_g (n := 1) (pc' := 585) (L' := [some (.ref 1002000), some (.ref 0), some (.ref 158), some (.int (iI y3))]) (st' := [.int (iI 0)]) rfl ?_
    exact wp_zret rfl rfl (by decide) ⟨_, _, _, _, rfl, (by decide), S, hW⟩
set_option maxRecDepth 100000 in
theorem vc_L_law_586 {E : am_E} {k : Nat} {y3 : Int} {m : MM} {γ : GM} {t : am_H} {Q : Int → MM → GM → am_H → Prop} (hy3 : rJ y3) (hW : W_L_law_586 E k y3 m γ t Q) : hd_L_law_586 E k y3 m γ t Q := by
  unfold W_L_law_586 at hW
  intro h S
  refine wp_g (n := 4) (pc' := 590) (L' := [some (.ref 1002000), some (.ref 0), some (.ref 158), some (.int (iI y3))]) (st' := [.int (iI 1), .int (iI y3), .ref 1002000, .ref 0]) rfl ?_
  refine wp_add (a := y3) (b := 1) rfl ?_
  obtain ⟨p1, hW⟩ := hW
  refine wp_scr rfl p1 ?_
  have hr2 : rJ (scr E (((y3 + 1)).toNat)) := i32_rg _
  refine wp_g (n := 3) (pc' := 595) (L' := [some (.ref 1002000), some (.ref 0), some (.ref 158), some (.int (iI y3))]) (st' := [.int (iI 2), .int (iI y3), .ref 1002000, .int (iI (scr E (((y3 + 1)).toNat))), .ref 0]) rfl ?_
  refine wp_add (a := y3) (b := 2) rfl ?_
  obtain ⟨p3, hW⟩ := hW
  refine wp_scr rfl p3 ?_
  have hr4 : rJ (scr E (((y3 + 2)).toNat)) := i32_rg _
  refine wp_g (n := 3) (pc' := 600) (L' := [some (.ref 1002000), some (.ref 0), some (.ref 158), some (.int (iI y3))]) (st' := [.int (iI 3), .int (iI y3), .ref 1002000, .int (iI (scr E (((y3 + 2)).toNat))), .int (iI (scr E (((y3 + 1)).toNat))), .ref 0]) rfl ?_
  refine wp_add (a := y3) (b := 3) rfl ?_
  obtain ⟨p5, hW⟩ := hW
  refine wp_scr rfl p5 ?_
  have hr6 : rJ (scr E (((y3 + 3)).toNat)) := i32_rg _
  refine wp_cv (As := [.int (iI (scr E (((y3 + 1)).toNat))), .int (iI (scr E (((y3 + 2)).toNat))), .int (iI (scr E (((y3 + 3)).toNat)))]) (rest := []) rfl rfl (S.cell 0 (nc rfl)) (by decide) rfl rfl rfl (Nat.le_of_ble_eq_true rfl) (Nat.le_of_ble_eq_true rfl) (hW _ S) (fun r7 H7 q7 => ?_)
  obtain ⟨v7, m7, γ7, t7, rfl, hv7, S, hW⟩ := q7
  show wp _ _ _ _ _ [.int (iI v7)] _ _
  refine wp_g (n := 4) (pc' := 609) (L' := [some (.ref 1002000), some (.ref 0), some (.ref 158), some (.int (iI y3))]) (st' := [.int (iI 1), .int (iI y3), .ref 1002000, .ref 158, .int (iI v7)]) rfl ?_
  refine wp_add (a := y3) (b := 1) rfl ?_
  refine wp_scr rfl p1 ?_
  have hr8 : rJ (scr E (((y3 + 1)).toNat)) := i32_rg _
  refine wp_g (n := 3) (pc' := 614) (L' := [some (.ref 1002000), some (.ref 0), some (.ref 158), some (.int (iI y3))]) (st' := [.int (iI 2), .int (iI y3), .ref 1002000, .int (iI (scr E (((y3 + 1)).toNat))), .ref 158, .int (iI v7)]) rfl ?_
  refine wp_add (a := y3) (b := 2) rfl ?_
  refine wp_scr rfl p3 ?_
  have hr9 : rJ (scr E (((y3 + 2)).toNat)) := i32_rg _
  refine wp_g (n := 3) (pc' := 619) (L' := [some (.ref 1002000), some (.ref 0), some (.ref 158), some (.int (iI y3))]) (st' := [.int (iI 3), .int (iI y3), .ref 1002000, .int (iI (scr E (((y3 + 2)).toNat))), .int (iI (scr E (((y3 + 1)).toNat))), .ref 158, .int (iI v7)]) rfl ?_
  refine wp_add (a := y3) (b := 3) rfl ?_
  refine wp_scr rfl p5 ?_
  have hr10 : rJ (scr E (((y3 + 3)).toNat)) := i32_rg _
  refine wp_cv (As := [.int (iI (scr E (((y3 + 1)).toNat))), .int (iI (scr E (((y3 + 2)).toNat))), .int (iI (scr E (((y3 + 3)).toNat)))]) (rest := [.int (iI v7)]) rfl rfl (S.cell 158 (nc rfl)) (by decide) rfl rfl rfl (Nat.le_of_ble_eq_true rfl) (Nat.le_of_ble_eq_true rfl) (hW _ S) (fun r11 H11 q11 => ?_)
  obtain ⟨v11, m11, γ11, t11, rfl, hv11, S, hW⟩ := q11
  show wp _ _ _ _ _ [.int (iI v11), .int (iI v7)] _ _
  refine wp_icmpI (a := v7) (b := v11) rfl rfl hv7.1 hv7.2 hv11.1 hv11.2 (fun c12 => ?_) (fun c12 => ?_)
  · have dc12 := c12
    have hW := hW.1 dc12
    exact hW _ S
  · have dc12 := c12
    have hW := hW.2 dc12
    refine wp_g (n := 1) (pc' := 628) (L' := [some (.ref 1002000), some (.ref 0), some (.ref 158), some (.int (iI y3))]) (st' := [.int (iI 0)]) rfl ?_
    exact wp_zret rfl rfl (by decide) ⟨_, _, _, _, rfl, (by decide), S, hW⟩
set_option maxRecDepth 100000 in
theorem vc_L_law_629 {E : am_E} {k : Nat} {y3 : Int} {m : MM} {γ : GM} {t : am_H} {Q : Int → MM → GM → am_H → Prop} (hy3 : rJ y3) (hW : W_L_law_629 E k y3 m γ t Q) : hd_L_law_629 E k y3 m γ t Q := by
  unfold W_L_law_629 at hW
  intro h S
  refine wp_g (n := 4) (pc' := 633) (L' := [some (.ref 1002000), some (.ref 0), some (.ref 158), some (.int (iI y3))]) (st' := [.int (iI 1), .int (iI y3), .ref 1002000, .ref 0]) rfl ?_
  refine wp_add (a := y3) (b := 1) rfl ?_
  obtain ⟨p1, hW⟩ := hW
  refine wp_scr rfl p1 ?_
  have hr2 : rJ (scr E (((y3 + 1)).toNat)) := i32_rg _
  refine wp_g (n := 3) (pc' := 638) (L' := [some (.ref 1002000), some (.ref 0), some (.ref 158), some (.int (iI y3))]) (st' := [.int (iI 2), .int (iI y3), .ref 1002000, .int (iI (scr E (((y3 + 1)).toNat))), .ref 0]) rfl ?_
  refine wp_add (a := y3) (b := 2) rfl ?_
  obtain ⟨p3, hW⟩ := hW
  refine wp_scr rfl p3 ?_
  have hr4 : rJ (scr E (((y3 + 2)).toNat)) := i32_rg _
  refine wp_g (n := 3) (pc' := 643) (L' := [some (.ref 1002000), some (.ref 0), some (.ref 158), some (.int (iI y3))]) (st' := [.int (iI 3), .int (iI y3), .ref 1002000, .int (iI (scr E (((y3 + 2)).toNat))), .int (iI (scr E (((y3 + 1)).toNat))), .ref 0]) rfl ?_
  refine wp_add (a := y3) (b := 3) rfl ?_
  obtain ⟨p5, hW⟩ := hW
  refine wp_scr rfl p5 ?_
  have hr6 : rJ (scr E (((y3 + 3)).toNat)) := i32_rg _
  refine wp_cv (As := [.int (iI (scr E (((y3 + 1)).toNat))), .int (iI (scr E (((y3 + 2)).toNat))), .int (iI (scr E (((y3 + 3)).toNat)))]) (rest := []) rfl rfl (S.cell 0 (nc rfl)) (by decide) rfl rfl rfl (Nat.le_of_ble_eq_true rfl) (Nat.le_of_ble_eq_true rfl) (hW _ S) (fun r7 H7 q7 => ?_)
  obtain ⟨v7, m7, γ7, t7, rfl, hv7, S, hW⟩ := q7
  show wp _ _ _ _ _ [.int (iI v7)] _ _
  refine wp_g (n := 4) (pc' := 652) (L' := [some (.ref 1002000), some (.ref 0), some (.ref 158), some (.int (iI y3))]) (st' := [.int (iI 1), .int (iI y3), .ref 1002000, .ref 158, .int (iI v7)]) rfl ?_
  refine wp_add (a := y3) (b := 1) rfl ?_
  refine wp_scr rfl p1 ?_
  have hr8 : rJ (scr E (((y3 + 1)).toNat)) := i32_rg _
  refine wp_g (n := 3) (pc' := 657) (L' := [some (.ref 1002000), some (.ref 0), some (.ref 158), some (.int (iI y3))]) (st' := [.int (iI 2), .int (iI y3), .ref 1002000, .int (iI (scr E (((y3 + 1)).toNat))), .ref 158, .int (iI v7)]) rfl ?_
  refine wp_add (a := y3) (b := 2) rfl ?_
  refine wp_scr rfl p3 ?_
  have hr9 : rJ (scr E (((y3 + 2)).toNat)) := i32_rg _
  refine wp_g (n := 3) (pc' := 662) (L' := [some (.ref 1002000), some (.ref 0), some (.ref 158), some (.int (iI y3))]) (st' := [.int (iI 3), .int (iI y3), .ref 1002000, .int (iI (scr E (((y3 + 2)).toNat))), .int (iI (scr E (((y3 + 1)).toNat))), .ref 158, .int (iI v7)]) rfl ?_
  refine wp_add (a := y3) (b := 3) rfl ?_
  refine wp_scr rfl p5 ?_
  have hr10 : rJ (scr E (((y3 + 3)).toNat)) := i32_rg _
  refine wp_cv (As := [.int (iI (scr E (((y3 + 1)).toNat))), .int (iI (scr E (((y3 + 2)).toNat))), .int (iI (scr E (((y3 + 3)).toNat)))]) (rest := [.int (iI v7)]) rfl rfl (S.cell 158 (nc rfl)) (by decide) rfl rfl rfl (Nat.le_of_ble_eq_true rfl) (Nat.le_of_ble_eq_true rfl) (hW _ S) (fun r11 H11 q11 => ?_)
  obtain ⟨v11, m11, γ11, t11, rfl, hv11, S, hW⟩ := q11
  show wp _ _ _ _ _ [.int (iI v11), .int (iI v7)] _ _
  refine wp_icmpI (a := v7) (b := v11) rfl rfl hv7.1 hv7.2 hv11.1 hv11.2 (fun c12 => ?_) (fun c12 => ?_)
  · have dc12 := c12
    have hW := hW.1 dc12
    exact hW _ S
  · have dc12 := c12
    have hW := hW.2 dc12
    refine wp_g (n := 1) (pc' := 671) (L' := [some (.ref 1002000), some (.ref 0), some (.ref 158), some (.int (iI y3))]) (st' := [.int (iI 0)]) rfl ?_
    exact wp_zret rfl rfl (by decide) ⟨_, _, _, _, rfl, (by decide), S, hW⟩
set_option maxRecDepth 100000 in
theorem vc_L_law_672 {E : am_E} {k : Nat} {y3 : Int} {m : MM} {γ : GM} {t : am_H} {Q : Int → MM → GM → am_H → Prop} (hy3 : rJ y3) (hW : W_L_law_672 E k y3 m γ t Q) : hd_L_law_672 E k y3 m γ t Q := by
  unfold W_L_law_672 at hW
  intro h S
  refine wp_g (n := 4) (pc' := 676) (L' := [some (.ref 1002000), some (.ref 0), some (.ref 158), some (.int (iI y3))]) (st' := [.int (iI 1), .int (iI y3), .ref 1002000, .ref 0]) rfl ?_
  refine wp_add (a := y3) (b := 1) rfl ?_
  obtain ⟨p1, hW⟩ := hW
  refine wp_scr rfl p1 ?_
  have hr2 : rJ (scr E (((y3 + 1)).toNat)) := i32_rg _
  refine wp_g (n := 3) (pc' := 681) (L' := [some (.ref 1002000), some (.ref 0), some (.ref 158), some (.int (iI y3))]) (st' := [.int (iI 2), .int (iI y3), .ref 1002000, .int (iI (scr E (((y3 + 1)).toNat))), .ref 0]) rfl ?_
  refine wp_add (a := y3) (b := 2) rfl ?_
  obtain ⟨p3, hW⟩ := hW
  refine wp_scr rfl p3 ?_
  have hr4 : rJ (scr E (((y3 + 2)).toNat)) := i32_rg _
  refine wp_cv (As := [.int (iI (scr E (((y3 + 1)).toNat))), .int (iI (scr E (((y3 + 2)).toNat)))]) (rest := []) rfl rfl (S.cell 0 (nc rfl)) (by decide) rfl rfl rfl (Nat.le_of_ble_eq_true rfl) (Nat.le_of_ble_eq_true rfl) (hW _ S) (fun r5 H5 q5 => ?_)
  obtain ⟨v5, m5, γ5, t5, rfl, hv5, S, hW⟩ := q5
  show wp _ _ _ _ _ [.int (iI v5)] _ _
  refine wp_g (n := 4) (pc' := 690) (L' := [some (.ref 1002000), some (.ref 0), some (.ref 158), some (.int (iI y3))]) (st' := [.int (iI 1), .int (iI y3), .ref 1002000, .ref 158, .int (iI v5)]) rfl ?_
  refine wp_add (a := y3) (b := 1) rfl ?_
  refine wp_scr rfl p1 ?_
  have hr6 : rJ (scr E (((y3 + 1)).toNat)) := i32_rg _
  refine wp_g (n := 3) (pc' := 695) (L' := [some (.ref 1002000), some (.ref 0), some (.ref 158), some (.int (iI y3))]) (st' := [.int (iI 2), .int (iI y3), .ref 1002000, .int (iI (scr E (((y3 + 1)).toNat))), .ref 158, .int (iI v5)]) rfl ?_
  refine wp_add (a := y3) (b := 2) rfl ?_
  refine wp_scr rfl p3 ?_
  have hr7 : rJ (scr E (((y3 + 2)).toNat)) := i32_rg _
  refine wp_cv (As := [.int (iI (scr E (((y3 + 1)).toNat))), .int (iI (scr E (((y3 + 2)).toNat)))]) (rest := [.int (iI v5)]) rfl rfl (S.cell 158 (nc rfl)) (by decide) rfl rfl rfl (Nat.le_of_ble_eq_true rfl) (Nat.le_of_ble_eq_true rfl) (hW _ S) (fun r8 H8 q8 => ?_)
  obtain ⟨v8, m8, γ8, t8, rfl, hv8, S, hW⟩ := q8
  show wp _ _ _ _ _ [.int (iI v8), .int (iI v5)] _ _
  refine wp_icmpI (a := v5) (b := v8) rfl rfl hv5.1 hv5.2 hv8.1 hv8.2 (fun c9 => ?_) (fun c9 => ?_)
  · have dc9 := c9
    have hW := hW.1 dc9
    exact hW _ S
  · have dc9 := c9
    have hW := hW.2 dc9
    refine wp_g (n := 1) (pc' := 704) (L' := [some (.ref 1002000), some (.ref 0), some (.ref 158), some (.int (iI y3))]) (st' := [.int (iI 0)]) rfl ?_
    exact wp_zret rfl rfl (by decide) ⟨_, _, _, _, rfl, (by decide), S, hW⟩
set_option maxRecDepth 100000 in
theorem vc_L_law_705 {E : am_E} {k : Nat} {y3 : Int} {m : MM} {γ : GM} {t : am_H} {Q : Int → MM → GM → am_H → Prop} (hy3 : rJ y3) (hW : W_L_law_705 E k y3 m γ t Q) : hd_L_law_705 E k y3 m γ t Q := by
  unfold W_L_law_705 at hW
  intro h S
  refine wp_g (n := 4) (pc' := 709) (L' := [some (.ref 1002000), some (.ref 0), some (.ref 158), some (.int (iI y3))]) (st' := [.int (iI 1), .int (iI y3), .ref 1002000, .ref 0]) rfl ?_
  refine wp_add (a := y3) (b := 1) rfl ?_
  obtain ⟨p1, hW⟩ := hW
  refine wp_scr rfl p1 ?_
  have hr2 : rJ (scr E (((y3 + 1)).toNat)) := i32_rg _
  refine wp_g (n := 3) (pc' := 714) (L' := [some (.ref 1002000), some (.ref 0), some (.ref 158), some (.int (iI y3))]) (st' := [.int (iI 2), .int (iI y3), .ref 1002000, .int (iI (scr E (((y3 + 1)).toNat))), .ref 0]) rfl ?_
  refine wp_add (a := y3) (b := 2) rfl ?_
  obtain ⟨p3, hW⟩ := hW
  refine wp_scr rfl p3 ?_
  have hr4 : rJ (scr E (((y3 + 2)).toNat)) := i32_rg _
  refine wp_g (n := 3) (pc' := 719) (L' := [some (.ref 1002000), some (.ref 0), some (.ref 158), some (.int (iI y3))]) (st' := [.int (iI 3), .int (iI y3), .ref 1002000, .int (iI (scr E (((y3 + 2)).toNat))), .int (iI (scr E (((y3 + 1)).toNat))), .ref 0]) rfl ?_
  refine wp_add (a := y3) (b := 3) rfl ?_
  obtain ⟨p5, hW⟩ := hW
  refine wp_scr rfl p5 ?_
  have hr6 : rJ (scr E (((y3 + 3)).toNat)) := i32_rg _
  refine wp_cv (As := [.int (iI (scr E (((y3 + 1)).toNat))), .int (iI (scr E (((y3 + 2)).toNat))), .int (iI (scr E (((y3 + 3)).toNat)))]) (rest := []) rfl rfl (S.cell 0 (nc rfl)) (by decide) rfl rfl rfl (Nat.le_of_ble_eq_true rfl) (Nat.le_of_ble_eq_true rfl) (hW _ S) (fun r7 H7 q7 => ?_)
  obtain ⟨v7, m7, γ7, t7, rfl, hv7, S, hW⟩ := q7
  show wp _ _ _ _ _ [.int (iI v7)] _ _
  refine wp_g (n := 4) (pc' := 728) (L' := [some (.ref 1002000), some (.ref 0), some (.ref 158), some (.int (iI y3))]) (st' := [.int (iI 1), .int (iI y3), .ref 1002000, .ref 158, .int (iI v7)]) rfl ?_
  refine wp_add (a := y3) (b := 1) rfl ?_
  refine wp_scr rfl p1 ?_
  have hr8 : rJ (scr E (((y3 + 1)).toNat)) := i32_rg _
  refine wp_g (n := 3) (pc' := 733) (L' := [some (.ref 1002000), some (.ref 0), some (.ref 158), some (.int (iI y3))]) (st' := [.int (iI 2), .int (iI y3), .ref 1002000, .int (iI (scr E (((y3 + 1)).toNat))), .ref 158, .int (iI v7)]) rfl ?_
  refine wp_add (a := y3) (b := 2) rfl ?_
  refine wp_scr rfl p3 ?_
  have hr9 : rJ (scr E (((y3 + 2)).toNat)) := i32_rg _
  refine wp_g (n := 3) (pc' := 738) (L' := [some (.ref 1002000), some (.ref 0), some (.ref 158), some (.int (iI y3))]) (st' := [.int (iI 3), .int (iI y3), .ref 1002000, .int (iI (scr E (((y3 + 2)).toNat))), .int (iI (scr E (((y3 + 1)).toNat))), .ref 158, .int (iI v7)]) rfl ?_
  refine wp_add (a := y3) (b := 3) rfl ?_
  refine wp_scr rfl p5 ?_
  have hr10 : rJ (scr E (((y3 + 3)).toNat)) := i32_rg _
  refine wp_cv (As := [.int (iI (scr E (((y3 + 1)).toNat))), .int (iI (scr E (((y3 + 2)).toNat))), .int (iI (scr E (((y3 + 3)).toNat)))]) (rest := [.int (iI v7)]) rfl rfl (S.cell 158 (nc rfl)) (by decide) rfl rfl rfl (Nat.le_of_ble_eq_true rfl) (Nat.le_of_ble_eq_true rfl) (hW _ S) (fun r11 H11 q11 => ?_)
  obtain ⟨v11, m11, γ11, t11, rfl, hv11, S, hW⟩ := q11
  show wp _ _ _ _ _ [.int (iI v11), .int (iI v7)] _ _
  refine wp_icmpI (a := v7) (b := v11) rfl rfl hv7.1 hv7.2 hv11.1 hv11.2 (fun c12 => ?_) (fun c12 => ?_)
  · have dc12 := c12
    have hW := hW.1 dc12
    exact hW _ S
  · have dc12 := c12
    have hW := hW.2 dc12
    refine wp_g (n := 1) (pc' := 747) (L' := [some (.ref 1002000), some (.ref 0), some (.ref 158), some (.int (iI y3))]) (st' := [.int (iI 0)]) rfl ?_
    exact wp_zret rfl rfl (by decide) ⟨_, _, _, _, rfl, (by decide), S, hW⟩
set_option maxRecDepth 100000 in
theorem vc_L_law_748 {E : am_E} {k : Nat} {y3 : Int} {m : MM} {γ : GM} {t : am_H} {Q : Int → MM → GM → am_H → Prop} (hy3 : rJ y3) (hW : W_L_law_748 E k y3 m γ t Q) : hd_L_law_748 E k y3 m γ t Q := by
  unfold W_L_law_748 at hW
  intro h S
  refine wp_g (n := 4) (pc' := 752) (L' := [some (.ref 1002000), some (.ref 0), some (.ref 158), some (.int (iI y3))]) (st' := [.int (iI 1), .int (iI y3), .ref 1002000, .ref 0]) rfl ?_
  refine wp_add (a := y3) (b := 1) rfl ?_
  obtain ⟨p1, hW⟩ := hW
  refine wp_scr rfl p1 ?_
  have hr2 : rJ (scr E (((y3 + 1)).toNat)) := i32_rg _
  refine wp_g (n := 3) (pc' := 757) (L' := [some (.ref 1002000), some (.ref 0), some (.ref 158), some (.int (iI y3))]) (st' := [.int (iI 2), .int (iI y3), .ref 1002000, .int (iI (scr E (((y3 + 1)).toNat))), .ref 0]) rfl ?_
  refine wp_add (a := y3) (b := 2) rfl ?_
  obtain ⟨p3, hW⟩ := hW
  refine wp_scr rfl p3 ?_
  have hr4 : rJ (scr E (((y3 + 2)).toNat)) := i32_rg _
  refine wp_g (n := 3) (pc' := 762) (L' := [some (.ref 1002000), some (.ref 0), some (.ref 158), some (.int (iI y3))]) (st' := [.int (iI 3), .int (iI y3), .ref 1002000, .int (iI (scr E (((y3 + 2)).toNat))), .int (iI (scr E (((y3 + 1)).toNat))), .ref 0]) rfl ?_
  refine wp_add (a := y3) (b := 3) rfl ?_
  obtain ⟨p5, hW⟩ := hW
  refine wp_scr rfl p5 ?_
  have hr6 : rJ (scr E (((y3 + 3)).toNat)) := i32_rg _
  refine wp_cv (As := [.int (iI (scr E (((y3 + 1)).toNat))), .int (iI (scr E (((y3 + 2)).toNat))), .int (iI (scr E (((y3 + 3)).toNat)))]) (rest := []) rfl rfl (S.cell 0 (nc rfl)) (by decide) rfl rfl rfl (Nat.le_of_ble_eq_true rfl) (Nat.le_of_ble_eq_true rfl) (hW _ S) (fun r7 H7 q7 => ?_)
  obtain ⟨v7, m7, γ7, t7, rfl, hv7, S, hW⟩ := q7
  show wp _ _ _ _ _ [.int (iI v7)] _ _
  refine wp_g (n := 4) (pc' := 771) (L' := [some (.ref 1002000), some (.ref 0), some (.ref 158), some (.int (iI y3))]) (st' := [.int (iI 1), .int (iI y3), .ref 1002000, .ref 158, .int (iI v7)]) rfl ?_
  refine wp_add (a := y3) (b := 1) rfl ?_
  refine wp_scr rfl p1 ?_
  have hr8 : rJ (scr E (((y3 + 1)).toNat)) := i32_rg _
  refine wp_g (n := 3) (pc' := 776) (L' := [some (.ref 1002000), some (.ref 0), some (.ref 158), some (.int (iI y3))]) (st' := [.int (iI 2), .int (iI y3), .ref 1002000, .int (iI (scr E (((y3 + 1)).toNat))), .ref 158, .int (iI v7)]) rfl ?_
  refine wp_add (a := y3) (b := 2) rfl ?_
  refine wp_scr rfl p3 ?_
  have hr9 : rJ (scr E (((y3 + 2)).toNat)) := i32_rg _
  refine wp_g (n := 3) (pc' := 781) (L' := [some (.ref 1002000), some (.ref 0), some (.ref 158), some (.int (iI y3))]) (st' := [.int (iI 3), .int (iI y3), .ref 1002000, .int (iI (scr E (((y3 + 2)).toNat))), .int (iI (scr E (((y3 + 1)).toNat))), .ref 158, .int (iI v7)]) rfl ?_
  refine wp_add (a := y3) (b := 3) rfl ?_
  refine wp_scr rfl p5 ?_
  have hr10 : rJ (scr E (((y3 + 3)).toNat)) := i32_rg _
  refine wp_cv (As := [.int (iI (scr E (((y3 + 1)).toNat))), .int (iI (scr E (((y3 + 2)).toNat))), .int (iI (scr E (((y3 + 3)).toNat)))]) (rest := [.int (iI v7)]) rfl rfl (S.cell 158 (nc rfl)) (by decide) rfl rfl rfl (Nat.le_of_ble_eq_true rfl) (Nat.le_of_ble_eq_true rfl) (hW _ S) (fun r11 H11 q11 => ?_)
  obtain ⟨v11, m11, γ11, t11, rfl, hv11, S, hW⟩ := q11
  show wp _ _ _ _ _ [.int (iI v11), .int (iI v7)] _ _
  refine wp_icmpI (a := v7) (b := v11) rfl rfl hv7.1 hv7.2 hv11.1 hv11.2 (fun c12 => ?_) (fun c12 => ?_)
  · have dc12 := c12
    have hW := hW.1 dc12
    exact hW _ S
  · have dc12 := c12
    have hW := hW.2 dc12
    refine wp_g (n := 1) (pc' := 790) (L' := [some (.ref 1002000), some (.ref 0), some (.ref 158), some (.int (iI y3))]) (st' := [.int (iI 0)]) rfl ?_
    exact wp_zret rfl rfl (by decide) ⟨_, _, _, _, rfl, (by decide), S, hW⟩
set_option maxRecDepth 100000 in
theorem vc_L_law_791 {E : am_E} {k : Nat} {y3 : Int} {m : MM} {γ : GM} {t : am_H} {Q : Int → MM → GM → am_H → Prop} (hy3 : rJ y3) (hW : W_L_law_791 E k y3 m γ t Q) : hd_L_law_791 E k y3 m γ t Q := by
  unfold W_L_law_791 at hW
  intro h S
  refine wp_g (n := 4) (pc' := 795) (L' := [some (.ref 1002000), some (.ref 0), some (.ref 158), some (.int (iI y3))]) (st' := [.int (iI 1), .int (iI y3), .ref 1002000, .ref 0]) rfl ?_
  refine wp_add (a := y3) (b := 1) rfl ?_
  obtain ⟨p1, hW⟩ := hW
  refine wp_scr rfl p1 ?_
  have hr2 : rJ (scr E (((y3 + 1)).toNat)) := i32_rg _
  refine wp_g (n := 3) (pc' := 800) (L' := [some (.ref 1002000), some (.ref 0), some (.ref 158), some (.int (iI y3))]) (st' := [.int (iI 2), .int (iI y3), .ref 1002000, .int (iI (scr E (((y3 + 1)).toNat))), .ref 0]) rfl ?_
  refine wp_add (a := y3) (b := 2) rfl ?_
  obtain ⟨p3, hW⟩ := hW
  refine wp_scr rfl p3 ?_
  have hr4 : rJ (scr E (((y3 + 2)).toNat)) := i32_rg _
  refine wp_cv (As := [.int (iI (scr E (((y3 + 1)).toNat))), .int (iI (scr E (((y3 + 2)).toNat)))]) (rest := []) rfl rfl (S.cell 0 (nc rfl)) (by decide) rfl rfl rfl (Nat.le_of_ble_eq_true rfl) (Nat.le_of_ble_eq_true rfl) (hW _ S) (fun r5 H5 q5 => ?_)
  obtain ⟨v5, m5, γ5, t5, rfl, hv5, S, hW⟩ := q5
  show wp _ _ _ _ _ [.int (iI v5)] _ _
  refine wp_g (n := 4) (pc' := 809) (L' := [some (.ref 1002000), some (.ref 0), some (.ref 158), some (.int (iI y3))]) (st' := [.int (iI 1), .int (iI y3), .ref 1002000, .ref 158, .int (iI v5)]) rfl ?_
  refine wp_add (a := y3) (b := 1) rfl ?_
  refine wp_scr rfl p1 ?_
  have hr6 : rJ (scr E (((y3 + 1)).toNat)) := i32_rg _
  refine wp_g (n := 3) (pc' := 814) (L' := [some (.ref 1002000), some (.ref 0), some (.ref 158), some (.int (iI y3))]) (st' := [.int (iI 2), .int (iI y3), .ref 1002000, .int (iI (scr E (((y3 + 1)).toNat))), .ref 158, .int (iI v5)]) rfl ?_
  refine wp_add (a := y3) (b := 2) rfl ?_
  refine wp_scr rfl p3 ?_
  have hr7 : rJ (scr E (((y3 + 2)).toNat)) := i32_rg _
  refine wp_cv (As := [.int (iI (scr E (((y3 + 1)).toNat))), .int (iI (scr E (((y3 + 2)).toNat)))]) (rest := [.int (iI v5)]) rfl rfl (S.cell 158 (nc rfl)) (by decide) rfl rfl rfl (Nat.le_of_ble_eq_true rfl) (Nat.le_of_ble_eq_true rfl) (hW _ S) (fun r8 H8 q8 => ?_)
  obtain ⟨v8, m8, γ8, t8, rfl, hv8, S, hW⟩ := q8
  show wp _ _ _ _ _ [.int (iI v8), .int (iI v5)] _ _
  refine wp_icmpI (a := v5) (b := v8) rfl rfl hv5.1 hv5.2 hv8.1 hv8.2 (fun c9 => ?_) (fun c9 => ?_)
  · have dc9 := c9
    have hW := hW.1 dc9
    exact hW _ S
  · have dc9 := c9
    have hW := hW.2 dc9
    refine wp_g (n := 1) (pc' := 823) (L' := [some (.ref 1002000), some (.ref 0), some (.ref 158), some (.int (iI y3))]) (st' := [.int (iI 0)]) rfl ?_
    exact wp_zret rfl rfl (by decide) ⟨_, _, _, _, rfl, (by decide), S, hW⟩
set_option maxRecDepth 100000 in
theorem vc_L_law_824 {E : am_E} {k : Nat} {y3 : Int} {m : MM} {γ : GM} {t : am_H} {Q : Int → MM → GM → am_H → Prop} (hy3 : rJ y3) (hW : W_L_law_824 E k y3 m γ t Q) : hd_L_law_824 E k y3 m γ t Q := by
  unfold W_L_law_824 at hW
  intro h S
  refine wp_g (n := 4) (pc' := 828) (L' := [some (.ref 1002000), some (.ref 0), some (.ref 158), some (.int (iI y3))]) (st' := [.int (iI 1), .int (iI y3), .ref 1002000, .ref 0]) rfl ?_
  refine wp_add (a := y3) (b := 1) rfl ?_
  obtain ⟨p1, hW⟩ := hW
  refine wp_scr rfl p1 ?_
  have hr2 : rJ (scr E (((y3 + 1)).toNat)) := i32_rg _
  refine wp_g (n := 3) (pc' := 833) (L' := [some (.ref 1002000), some (.ref 0), some (.ref 158), some (.int (iI y3))]) (st' := [.int (iI 2), .int (iI y3), .ref 1002000, .int (iI (scr E (((y3 + 1)).toNat))), .ref 0]) rfl ?_
  refine wp_add (a := y3) (b := 2) rfl ?_
  obtain ⟨p3, hW⟩ := hW
  refine wp_scr rfl p3 ?_
  have hr4 : rJ (scr E (((y3 + 2)).toNat)) := i32_rg _
  refine wp_cv (As := [.int (iI (scr E (((y3 + 1)).toNat))), .int (iI (scr E (((y3 + 2)).toNat)))]) (rest := []) rfl rfl (S.cell 0 (nc rfl)) (by decide) rfl rfl rfl (Nat.le_of_ble_eq_true rfl) (Nat.le_of_ble_eq_true rfl) (hW _ S) (fun r5 H5 q5 => ?_)
  obtain ⟨v5, m5, γ5, t5, rfl, hv5, S, hW⟩ := q5
  show wp _ _ _ _ _ [.int (iI v5)] _ _
  refine wp_g (n := 4) (pc' := 842) (L' := [some (.ref 1002000), some (.ref 0), some (.ref 158), some (.int (iI y3))]) (st' := [.int (iI 1), .int (iI y3), .ref 1002000, .ref 158, .int (iI v5)]) rfl ?_
  refine wp_add (a := y3) (b := 1) rfl ?_
  refine wp_scr rfl p1 ?_
  have hr6 : rJ (scr E (((y3 + 1)).toNat)) := i32_rg _
  refine wp_g (n := 3) (pc' := 847) (L' := [some (.ref 1002000), some (.ref 0), some (.ref 158), some (.int (iI y3))]) (st' := [.int (iI 2), .int (iI y3), .ref 1002000, .int (iI (scr E (((y3 + 1)).toNat))), .ref 158, .int (iI v5)]) rfl ?_
  refine wp_add (a := y3) (b := 2) rfl ?_
  refine wp_scr rfl p3 ?_
  have hr7 : rJ (scr E (((y3 + 2)).toNat)) := i32_rg _
  refine wp_cv (As := [.int (iI (scr E (((y3 + 1)).toNat))), .int (iI (scr E (((y3 + 2)).toNat)))]) (rest := [.int (iI v5)]) rfl rfl (S.cell 158 (nc rfl)) (by decide) rfl rfl rfl (Nat.le_of_ble_eq_true rfl) (Nat.le_of_ble_eq_true rfl) (hW _ S) (fun r8 H8 q8 => ?_)
  obtain ⟨v8, m8, γ8, t8, rfl, hv8, S, hW⟩ := q8
  show wp _ _ _ _ _ [.int (iI v8), .int (iI v5)] _ _
  refine wp_icmpI (a := v5) (b := v8) rfl rfl hv5.1 hv5.2 hv8.1 hv8.2 (fun c9 => ?_) (fun c9 => ?_)
  · have dc9 := c9
    have hW := hW.1 dc9
    exact hW _ S
  · have dc9 := c9
    have hW := hW.2 dc9
    refine wp_g (n := 1) (pc' := 856) (L' := [some (.ref 1002000), some (.ref 0), some (.ref 158), some (.int (iI y3))]) (st' := [.int (iI 0)]) rfl ?_
    exact wp_zret rfl rfl (by decide) ⟨_, _, _, _, rfl, (by decide), S, hW⟩
set_option maxRecDepth 100000 in
theorem vc_L_law_857 {E : am_E} {k : Nat} {y3 : Int} {m : MM} {γ : GM} {t : am_H} {Q : Int → MM → GM → am_H → Prop} (hy3 : rJ y3) (hW : W_L_law_857 E k y3 m γ t Q) : hd_L_law_857 E k y3 m γ t Q := by
  unfold W_L_law_857 at hW
  intro h S
  refine wp_g (n := 4) (pc' := 861) (L' := [some (.ref 1002000), some (.ref 0), some (.ref 158), some (.int (iI y3))]) (st' := [.int (iI 1), .int (iI y3), .ref 1002000, .ref 0]) rfl ?_
  refine wp_add (a := y3) (b := 1) rfl ?_
  obtain ⟨p1, hW⟩ := hW
  refine wp_scr rfl p1 ?_
  have hr2 : rJ (scr E (((y3 + 1)).toNat)) := i32_rg _
  refine wp_g (n := 3) (pc' := 866) (L' := [some (.ref 1002000), some (.ref 0), some (.ref 158), some (.int (iI y3))]) (st' := [.int (iI 2), .int (iI y3), .ref 1002000, .int (iI (scr E (((y3 + 1)).toNat))), .ref 0]) rfl ?_
  refine wp_add (a := y3) (b := 2) rfl ?_
  obtain ⟨p3, hW⟩ := hW
  refine wp_scr rfl p3 ?_
  have hr4 : rJ (scr E (((y3 + 2)).toNat)) := i32_rg _
  refine wp_g (n := 3) (pc' := 871) (L' := [some (.ref 1002000), some (.ref 0), some (.ref 158), some (.int (iI y3))]) (st' := [.int (iI 3), .int (iI y3), .ref 1002000, .int (iI (scr E (((y3 + 2)).toNat))), .int (iI (scr E (((y3 + 1)).toNat))), .ref 0]) rfl ?_
  refine wp_add (a := y3) (b := 3) rfl ?_
  obtain ⟨p5, hW⟩ := hW
  refine wp_scr rfl p5 ?_
  have hr6 : rJ (scr E (((y3 + 3)).toNat)) := i32_rg _
  refine wp_cv (As := [.int (iI (scr E (((y3 + 1)).toNat))), .int (iI (scr E (((y3 + 2)).toNat))), .int (iI (scr E (((y3 + 3)).toNat)))]) (rest := []) rfl rfl (S.cell 0 (nc rfl)) (by decide) rfl rfl rfl (Nat.le_of_ble_eq_true rfl) (Nat.le_of_ble_eq_true rfl) (hW _ S) (fun r7 H7 q7 => ?_)
  obtain ⟨v7, m7, γ7, t7, rfl, hv7, S, hW⟩ := q7
  show wp _ _ _ _ _ [.int (iI v7)] _ _
  refine wp_g (n := 4) (pc' := 880) (L' := [some (.ref 1002000), some (.ref 0), some (.ref 158), some (.int (iI y3))]) (st' := [.int (iI 1), .int (iI y3), .ref 1002000, .ref 158, .int (iI v7)]) rfl ?_
  refine wp_add (a := y3) (b := 1) rfl ?_
  refine wp_scr rfl p1 ?_
  have hr8 : rJ (scr E (((y3 + 1)).toNat)) := i32_rg _
  refine wp_g (n := 3) (pc' := 885) (L' := [some (.ref 1002000), some (.ref 0), some (.ref 158), some (.int (iI y3))]) (st' := [.int (iI 2), .int (iI y3), .ref 1002000, .int (iI (scr E (((y3 + 1)).toNat))), .ref 158, .int (iI v7)]) rfl ?_
  refine wp_add (a := y3) (b := 2) rfl ?_
  refine wp_scr rfl p3 ?_
  have hr9 : rJ (scr E (((y3 + 2)).toNat)) := i32_rg _
  refine wp_g (n := 3) (pc' := 890) (L' := [some (.ref 1002000), some (.ref 0), some (.ref 158), some (.int (iI y3))]) (st' := [.int (iI 3), .int (iI y3), .ref 1002000, .int (iI (scr E (((y3 + 2)).toNat))), .int (iI (scr E (((y3 + 1)).toNat))), .ref 158, .int (iI v7)]) rfl ?_
  refine wp_add (a := y3) (b := 3) rfl ?_
  refine wp_scr rfl p5 ?_
  have hr10 : rJ (scr E (((y3 + 3)).toNat)) := i32_rg _
  refine wp_cv (As := [.int (iI (scr E (((y3 + 1)).toNat))), .int (iI (scr E (((y3 + 2)).toNat))), .int (iI (scr E (((y3 + 3)).toNat)))]) (rest := [.int (iI v7)]) rfl rfl (S.cell 158 (nc rfl)) (by decide) rfl rfl rfl (Nat.le_of_ble_eq_true rfl) (Nat.le_of_ble_eq_true rfl) (hW _ S) (fun r11 H11 q11 => ?_)
  obtain ⟨v11, m11, γ11, t11, rfl, hv11, S, hW⟩ := q11
  show wp _ _ _ _ _ [.int (iI v11), .int (iI v7)] _ _
  refine wp_icmpI (a := v7) (b := v11) rfl rfl hv7.1 hv7.2 hv11.1 hv11.2 (fun c12 => ?_) (fun c12 => ?_)
  · have dc12 := c12
    have hW := hW.1 dc12
    exact hW _ S
  · have dc12 := c12
    have hW := hW.2 dc12
    refine wp_g (n := 1) (pc' := 899) (L' := [some (.ref 1002000), some (.ref 0), some (.ref 158), some (.int (iI y3))]) (st' := [.int (iI 0)]) rfl ?_
    exact wp_zret rfl rfl (by decide) ⟨_, _, _, _, rfl, (by decide), S, hW⟩
set_option maxRecDepth 100000 in
theorem vc_L_law_900 {E : am_E} {k : Nat} {y3 : Int} {m : MM} {γ : GM} {t : am_H} {Q : Int → MM → GM → am_H → Prop} (hy3 : rJ y3) (hW : W_L_law_900 E k y3 m γ t Q) : hd_L_law_900 E k y3 m γ t Q := by
  unfold W_L_law_900 at hW
  intro h S
  refine wp_g (n := 4) (pc' := 904) (L' := [some (.ref 1002000), some (.ref 0), some (.ref 158), some (.int (iI y3))]) (st' := [.int (iI 1), .int (iI y3), .ref 1002000, .ref 0]) rfl ?_
  refine wp_add (a := y3) (b := 1) rfl ?_
  obtain ⟨p1, hW⟩ := hW
  refine wp_scr rfl p1 ?_
  have hr2 : rJ (scr E (((y3 + 1)).toNat)) := i32_rg _
  refine wp_g (n := 3) (pc' := 909) (L' := [some (.ref 1002000), some (.ref 0), some (.ref 158), some (.int (iI y3))]) (st' := [.int (iI 2), .int (iI y3), .ref 1002000, .int (iI (scr E (((y3 + 1)).toNat))), .ref 0]) rfl ?_
  refine wp_add (a := y3) (b := 2) rfl ?_
  obtain ⟨p3, hW⟩ := hW
  refine wp_scr rfl p3 ?_
  have hr4 : rJ (scr E (((y3 + 2)).toNat)) := i32_rg _
  refine wp_cv (As := [.int (iI (scr E (((y3 + 1)).toNat))), .int (iI (scr E (((y3 + 2)).toNat)))]) (rest := []) rfl rfl (S.cell 0 (nc rfl)) (by decide) rfl rfl rfl (Nat.le_of_ble_eq_true rfl) (Nat.le_of_ble_eq_true rfl) (hW _ S) (fun r5 H5 q5 => ?_)
  obtain ⟨v5, m5, γ5, t5, rfl, hv5, S, hW⟩ := q5
  show wp _ _ _ _ _ [.int (iI v5)] _ _
  refine wp_g (n := 4) (pc' := 918) (L' := [some (.ref 1002000), some (.ref 0), some (.ref 158), some (.int (iI y3))]) (st' := [.int (iI 1), .int (iI y3), .ref 1002000, .ref 158, .int (iI v5)]) rfl ?_
  refine wp_add (a := y3) (b := 1) rfl ?_
  refine wp_scr rfl p1 ?_
  have hr6 : rJ (scr E (((y3 + 1)).toNat)) := i32_rg _
  refine wp_g (n := 3) (pc' := 923) (L' := [some (.ref 1002000), some (.ref 0), some (.ref 158), some (.int (iI y3))]) (st' := [.int (iI 2), .int (iI y3), .ref 1002000, .int (iI (scr E (((y3 + 1)).toNat))), .ref 158, .int (iI v5)]) rfl ?_
  refine wp_add (a := y3) (b := 2) rfl ?_
  refine wp_scr rfl p3 ?_
  have hr7 : rJ (scr E (((y3 + 2)).toNat)) := i32_rg _
  refine wp_cv (As := [.int (iI (scr E (((y3 + 1)).toNat))), .int (iI (scr E (((y3 + 2)).toNat)))]) (rest := [.int (iI v5)]) rfl rfl (S.cell 158 (nc rfl)) (by decide) rfl rfl rfl (Nat.le_of_ble_eq_true rfl) (Nat.le_of_ble_eq_true rfl) (hW _ S) (fun r8 H8 q8 => ?_)
  obtain ⟨v8, m8, γ8, t8, rfl, hv8, S, hW⟩ := q8
  show wp _ _ _ _ _ [.int (iI v8), .int (iI v5)] _ _
  refine wp_icmpI (a := v5) (b := v8) rfl rfl hv5.1 hv5.2 hv8.1 hv8.2 (fun c9 => ?_) (fun c9 => ?_)
  · have dc9 := c9
    have hW := hW.1 dc9
    exact hW _ S
  · have dc9 := c9
    have hW := hW.2 dc9
    refine wp_g (n := 1) (pc' := 932) (L' := [some (.ref 1002000), some (.ref 0), some (.ref 158), some (.int (iI y3))]) (st' := [.int (iI 0)]) rfl ?_
    exact wp_zret rfl rfl (by decide) ⟨_, _, _, _, rfl, (by decide), S, hW⟩
set_option maxRecDepth 100000 in
theorem vc_L_law_933 {E : am_E} {k : Nat} {y3 : Int} {m : MM} {γ : GM} {t : am_H} {Q : Int → MM → GM → am_H → Prop} (hy3 : rJ y3) (hW : W_L_law_933 E k y3 m γ t Q) : hd_L_law_933 E k y3 m γ t Q := by
  unfold W_L_law_933 at hW
  intro h S
  refine wp_g (n := 4) (pc' := 937) (L' := [some (.ref 1002000), some (.ref 0), some (.ref 158), some (.int (iI y3))]) (st' := [.int (iI 1), .int (iI y3), .ref 1002000, .ref 0]) rfl ?_
  refine wp_add (a := y3) (b := 1) rfl ?_
  obtain ⟨p1, hW⟩ := hW
  refine wp_scr rfl p1 ?_
  have hr2 : rJ (scr E (((y3 + 1)).toNat)) := i32_rg _
  refine wp_g (n := 3) (pc' := 942) (L' := [some (.ref 1002000), some (.ref 0), some (.ref 158), some (.int (iI y3))]) (st' := [.int (iI 2), .int (iI y3), .ref 1002000, .int (iI (scr E (((y3 + 1)).toNat))), .ref 0]) rfl ?_
  refine wp_add (a := y3) (b := 2) rfl ?_
  obtain ⟨p3, hW⟩ := hW
  refine wp_scr rfl p3 ?_
  have hr4 : rJ (scr E (((y3 + 2)).toNat)) := i32_rg _
  refine wp_g (n := 3) (pc' := 947) (L' := [some (.ref 1002000), some (.ref 0), some (.ref 158), some (.int (iI y3))]) (st' := [.int (iI 3), .int (iI y3), .ref 1002000, .int (iI (scr E (((y3 + 2)).toNat))), .int (iI (scr E (((y3 + 1)).toNat))), .ref 0]) rfl ?_
  refine wp_add (a := y3) (b := 3) rfl ?_
  obtain ⟨p5, hW⟩ := hW
  refine wp_scr rfl p5 ?_
  have hr6 : rJ (scr E (((y3 + 3)).toNat)) := i32_rg _
  refine wp_cv (As := [.int (iI (scr E (((y3 + 1)).toNat))), .int (iI (scr E (((y3 + 2)).toNat))), .int (iI (scr E (((y3 + 3)).toNat)))]) (rest := []) rfl rfl (S.cell 0 (nc rfl)) (by decide) rfl rfl rfl (Nat.le_of_ble_eq_true rfl) (Nat.le_of_ble_eq_true rfl) (hW _ S) (fun r7 H7 q7 => ?_)
  obtain ⟨v7, m7, γ7, t7, rfl, hv7, S, hW⟩ := q7
  show wp _ _ _ _ _ [.int (iI v7)] _ _
  refine wp_g (n := 4) (pc' := 956) (L' := [some (.ref 1002000), some (.ref 0), some (.ref 158), some (.int (iI y3))]) (st' := [.int (iI 1), .int (iI y3), .ref 1002000, .ref 158, .int (iI v7)]) rfl ?_
  refine wp_add (a := y3) (b := 1) rfl ?_
  refine wp_scr rfl p1 ?_
  have hr8 : rJ (scr E (((y3 + 1)).toNat)) := i32_rg _
  refine wp_g (n := 3) (pc' := 961) (L' := [some (.ref 1002000), some (.ref 0), some (.ref 158), some (.int (iI y3))]) (st' := [.int (iI 2), .int (iI y3), .ref 1002000, .int (iI (scr E (((y3 + 1)).toNat))), .ref 158, .int (iI v7)]) rfl ?_
  refine wp_add (a := y3) (b := 2) rfl ?_
  refine wp_scr rfl p3 ?_
  have hr9 : rJ (scr E (((y3 + 2)).toNat)) := i32_rg _
  refine wp_g (n := 3) (pc' := 966) (L' := [some (.ref 1002000), some (.ref 0), some (.ref 158), some (.int (iI y3))]) (st' := [.int (iI 3), .int (iI y3), .ref 1002000, .int (iI (scr E (((y3 + 2)).toNat))), .int (iI (scr E (((y3 + 1)).toNat))), .ref 158, .int (iI v7)]) rfl ?_
  refine wp_add (a := y3) (b := 3) rfl ?_
  refine wp_scr rfl p5 ?_
  have hr10 : rJ (scr E (((y3 + 3)).toNat)) := i32_rg _
  refine wp_cv (As := [.int (iI (scr E (((y3 + 1)).toNat))), .int (iI (scr E (((y3 + 2)).toNat))), .int (iI (scr E (((y3 + 3)).toNat)))]) (rest := [.int (iI v7)]) rfl rfl (S.cell 158 (nc rfl)) (by decide) rfl rfl rfl (Nat.le_of_ble_eq_true rfl) (Nat.le_of_ble_eq_true rfl) (hW _ S) (fun r11 H11 q11 => ?_)
  obtain ⟨v11, m11, γ11, t11, rfl, hv11, S, hW⟩ := q11
  show wp _ _ _ _ _ [.int (iI v11), .int (iI v7)] _ _
  refine wp_icmpI (a := v7) (b := v11) rfl rfl hv7.1 hv7.2 hv11.1 hv11.2 (fun c12 => ?_) (fun c12 => ?_)
  · have dc12 := c12
    have hW := hW.1 dc12
    exact hW _ S
  · have dc12 := c12
    have hW := hW.2 dc12
    refine wp_g (n := 1) (pc' := 975) (L' := [some (.ref 1002000), some (.ref 0), some (.ref 158), some (.int (iI y3))]) (st' := [.int (iI 0)]) rfl ?_
    exact wp_zret rfl rfl (by decide) ⟨_, _, _, _, rfl, (by decide), S, hW⟩
set_option maxRecDepth 100000 in
theorem vc_L_law_976 {E : am_E} {k : Nat} {y3 : Int} {m : MM} {γ : GM} {t : am_H} {Q : Int → MM → GM → am_H → Prop} (hy3 : rJ y3) (hW : W_L_law_976 E k y3 m γ t Q) : hd_L_law_976 E k y3 m γ t Q := by
  unfold W_L_law_976 at hW
  intro h S
  refine wp_g (n := 4) (pc' := 980) (L' := [some (.ref 1002000), some (.ref 0), some (.ref 158), some (.int (iI y3))]) (st' := [.int (iI 1), .int (iI y3), .ref 1002000, .ref 0]) rfl ?_
  refine wp_add (a := y3) (b := 1) rfl ?_
  obtain ⟨p1, hW⟩ := hW
  refine wp_scr rfl p1 ?_
  have hr2 : rJ (scr E (((y3 + 1)).toNat)) := i32_rg _
  refine wp_g (n := 3) (pc' := 985) (L' := [some (.ref 1002000), some (.ref 0), some (.ref 158), some (.int (iI y3))]) (st' := [.int (iI 2), .int (iI y3), .ref 1002000, .int (iI (scr E (((y3 + 1)).toNat))), .ref 0]) rfl ?_
  refine wp_add (a := y3) (b := 2) rfl ?_
  obtain ⟨p3, hW⟩ := hW
  refine wp_scr rfl p3 ?_
  have hr4 : rJ (scr E (((y3 + 2)).toNat)) := i32_rg _
  refine wp_g (n := 3) (pc' := 990) (L' := [some (.ref 1002000), some (.ref 0), some (.ref 158), some (.int (iI y3))]) (st' := [.int (iI 3), .int (iI y3), .ref 1002000, .int (iI (scr E (((y3 + 2)).toNat))), .int (iI (scr E (((y3 + 1)).toNat))), .ref 0]) rfl ?_
  refine wp_add (a := y3) (b := 3) rfl ?_
  obtain ⟨p5, hW⟩ := hW
  refine wp_scr rfl p5 ?_
  have hr6 : rJ (scr E (((y3 + 3)).toNat)) := i32_rg _
  refine wp_cv (As := [.int (iI (scr E (((y3 + 1)).toNat))), .int (iI (scr E (((y3 + 2)).toNat))), .int (iI (scr E (((y3 + 3)).toNat)))]) (rest := []) rfl rfl (S.cell 0 (nc rfl)) (by decide) rfl rfl rfl (Nat.le_of_ble_eq_true rfl) (Nat.le_of_ble_eq_true rfl) (hW _ S) (fun r7 H7 q7 => ?_)
  obtain ⟨v7, m7, γ7, t7, rfl, hv7, S, hW⟩ := q7
  show wp _ _ _ _ _ [.int (iI v7)] _ _
  refine wp_g (n := 4) (pc' := 999) (L' := [some (.ref 1002000), some (.ref 0), some (.ref 158), some (.int (iI y3))]) (st' := [.int (iI 1), .int (iI y3), .ref 1002000, .ref 158, .int (iI v7)]) rfl ?_
  refine wp_add (a := y3) (b := 1) rfl ?_
  refine wp_scr rfl p1 ?_
  have hr8 : rJ (scr E (((y3 + 1)).toNat)) := i32_rg _
  refine wp_g (n := 3) (pc' := 1004) (L' := [some (.ref 1002000), some (.ref 0), some (.ref 158), some (.int (iI y3))]) (st' := [.int (iI 2), .int (iI y3), .ref 1002000, .int (iI (scr E (((y3 + 1)).toNat))), .ref 158, .int (iI v7)]) rfl ?_
  refine wp_add (a := y3) (b := 2) rfl ?_
  refine wp_scr rfl p3 ?_
  have hr9 : rJ (scr E (((y3 + 2)).toNat)) := i32_rg _
  refine wp_g (n := 3) (pc' := 1009) (L' := [some (.ref 1002000), some (.ref 0), some (.ref 158), some (.int (iI y3))]) (st' := [.int (iI 3), .int (iI y3), .ref 1002000, .int (iI (scr E (((y3 + 2)).toNat))), .int (iI (scr E (((y3 + 1)).toNat))), .ref 158, .int (iI v7)]) rfl ?_
  refine wp_add (a := y3) (b := 3) rfl ?_
  refine wp_scr rfl p5 ?_
  have hr10 : rJ (scr E (((y3 + 3)).toNat)) := i32_rg _
  refine wp_cv (As := [.int (iI (scr E (((y3 + 1)).toNat))), .int (iI (scr E (((y3 + 2)).toNat))), .int (iI (scr E (((y3 + 3)).toNat)))]) (rest := [.int (iI v7)]) rfl rfl (S.cell 158 (nc rfl)) (by decide) rfl rfl rfl (Nat.le_of_ble_eq_true rfl) (Nat.le_of_ble_eq_true rfl) (hW _ S) (fun r11 H11 q11 => ?_)
  obtain ⟨v11, m11, γ11, t11, rfl, hv11, S, hW⟩ := q11
  show wp _ _ _ _ _ [.int (iI v11), .int (iI v7)] _ _
  refine wp_icmpI (a := v7) (b := v11) rfl rfl hv7.1 hv7.2 hv11.1 hv11.2 (fun c12 => ?_) (fun c12 => ?_)
  · have dc12 := c12
    have hW := hW.1 dc12
    exact hW _ S
  · have dc12 := c12
    have hW := hW.2 dc12
    refine wp_g (n := 1) (pc' := 1018) (L' := [some (.ref 1002000), some (.ref 0), some (.ref 158), some (.int (iI y3))]) (st' := [.int (iI 0)]) rfl ?_
    exact wp_zret rfl rfl (by decide) ⟨_, _, _, _, rfl, (by decide), S, hW⟩
set_option maxRecDepth 100000 in
theorem vc_L_law_1019 {E : am_E} {k : Nat} {y3 : Int} {m : MM} {γ : GM} {t : am_H} {Q : Int → MM → GM → am_H → Prop} (hy3 : rJ y3) (hW : W_L_law_1019 E k y3 m γ t Q) : hd_L_law_1019 E k y3 m γ t Q := by
  unfold W_L_law_1019 at hW
  intro h S
  refine wp_g (n := 4) (pc' := 1023) (L' := [some (.ref 1002000), some (.ref 0), some (.ref 158), some (.int (iI y3))]) (st' := [.int (iI 1), .int (iI y3), .ref 1002000, .ref 0]) rfl ?_
  refine wp_add (a := y3) (b := 1) rfl ?_
  obtain ⟨p1, hW⟩ := hW
  refine wp_scr rfl p1 ?_
  have hr2 : rJ (scr E (((y3 + 1)).toNat)) := i32_rg _
  refine wp_g (n := 3) (pc' := 1028) (L' := [some (.ref 1002000), some (.ref 0), some (.ref 158), some (.int (iI y3))]) (st' := [.int (iI 2), .int (iI y3), .ref 1002000, .int (iI (scr E (((y3 + 1)).toNat))), .ref 0]) rfl ?_
  refine wp_add (a := y3) (b := 2) rfl ?_
  obtain ⟨p3, hW⟩ := hW
  refine wp_scr rfl p3 ?_
  have hr4 : rJ (scr E (((y3 + 2)).toNat)) := i32_rg _
  refine wp_cv (As := [.int (iI (scr E (((y3 + 1)).toNat))), .int (iI (scr E (((y3 + 2)).toNat)))]) (rest := []) rfl rfl (S.cell 0 (nc rfl)) (by decide) rfl rfl rfl (Nat.le_of_ble_eq_true rfl) (Nat.le_of_ble_eq_true rfl) (hW _ S) (fun r5 H5 q5 => ?_)
  obtain ⟨v5, m5, γ5, t5, rfl, hv5, S, hW⟩ := q5
  show wp _ _ _ _ _ [.int (iI v5)] _ _
  refine wp_g (n := 4) (pc' := 1037) (L' := [some (.ref 1002000), some (.ref 0), some (.ref 158), some (.int (iI y3))]) (st' := [.int (iI 1), .int (iI y3), .ref 1002000, .ref 158, .int (iI v5)]) rfl ?_
  refine wp_add (a := y3) (b := 1) rfl ?_
  refine wp_scr rfl p1 ?_
  have hr6 : rJ (scr E (((y3 + 1)).toNat)) := i32_rg _
  refine wp_g (n := 3) (pc' := 1042) (L' := [some (.ref 1002000), some (.ref 0), some (.ref 158), some (.int (iI y3))]) (st' := [.int (iI 2), .int (iI y3), .ref 1002000, .int (iI (scr E (((y3 + 1)).toNat))), .ref 158, .int (iI v5)]) rfl ?_
  refine wp_add (a := y3) (b := 2) rfl ?_
  refine wp_scr rfl p3 ?_
  have hr7 : rJ (scr E (((y3 + 2)).toNat)) := i32_rg _
  refine wp_cv (As := [.int (iI (scr E (((y3 + 1)).toNat))), .int (iI (scr E (((y3 + 2)).toNat)))]) (rest := [.int (iI v5)]) rfl rfl (S.cell 158 (nc rfl)) (by decide) rfl rfl rfl (Nat.le_of_ble_eq_true rfl) (Nat.le_of_ble_eq_true rfl) (hW _ S) (fun r8 H8 q8 => ?_)
  obtain ⟨v8, m8, γ8, t8, rfl, hv8, S, hW⟩ := q8
  show wp _ _ _ _ _ [.int (iI v8), .int (iI v5)] _ _
  refine wp_icmpI (a := v5) (b := v8) rfl rfl hv5.1 hv5.2 hv8.1 hv8.2 (fun c9 => ?_) (fun c9 => ?_)
  · have dc9 := c9
    have hW := hW.1 dc9
    exact hW _ S
  · have dc9 := c9
    have hW := hW.2 dc9
    refine wp_g (n := 1) (pc' := 1051) (L' := [some (.ref 1002000), some (.ref 0), some (.ref 158), some (.int (iI y3))]) (st' := [.int (iI 0)]) rfl ?_
    exact wp_zret rfl rfl (by decide) ⟨_, _, _, _, rfl, (by decide), S, hW⟩
set_option maxRecDepth 100000 in
theorem vc_L_law_1052 {E : am_E} {k : Nat} {y3 : Int} {m : MM} {γ : GM} {t : am_H} {Q : Int → MM → GM → am_H → Prop} (hy3 : rJ y3) (hW : W_L_law_1052 E k y3 m γ t Q) : hd_L_law_1052 E k y3 m γ t Q := by
  unfold W_L_law_1052 at hW
  intro h S
  refine wp_g (n := 4) (pc' := 1056) (L' := [some (.ref 1002000), some (.ref 0), some (.ref 158), some (.int (iI y3))]) (st' := [.int (iI 1), .int (iI y3), .ref 1002000, .ref 0]) rfl ?_
  refine wp_add (a := y3) (b := 1) rfl ?_
  obtain ⟨p1, hW⟩ := hW
  refine wp_scr rfl p1 ?_
  have hr2 : rJ (scr E (((y3 + 1)).toNat)) := i32_rg _
  refine wp_g (n := 3) (pc' := 1061) (L' := [some (.ref 1002000), some (.ref 0), some (.ref 158), some (.int (iI y3))]) (st' := [.int (iI 2), .int (iI y3), .ref 1002000, .int (iI (scr E (((y3 + 1)).toNat))), .ref 0]) rfl ?_
  refine wp_add (a := y3) (b := 2) rfl ?_
  obtain ⟨p3, hW⟩ := hW
  refine wp_scr rfl p3 ?_
  have hr4 : rJ (scr E (((y3 + 2)).toNat)) := i32_rg _
  refine wp_g (n := 3) (pc' := 1066) (L' := [some (.ref 1002000), some (.ref 0), some (.ref 158), some (.int (iI y3))]) (st' := [.int (iI 3), .int (iI y3), .ref 1002000, .int (iI (scr E (((y3 + 2)).toNat))), .int (iI (scr E (((y3 + 1)).toNat))), .ref 0]) rfl ?_
  refine wp_add (a := y3) (b := 3) rfl ?_
  obtain ⟨p5, hW⟩ := hW
  refine wp_scr rfl p5 ?_
  have hr6 : rJ (scr E (((y3 + 3)).toNat)) := i32_rg _
  refine wp_cv (As := [.int (iI (scr E (((y3 + 1)).toNat))), .int (iI (scr E (((y3 + 2)).toNat))), .int (iI (scr E (((y3 + 3)).toNat)))]) (rest := []) rfl rfl (S.cell 0 (nc rfl)) (by decide) rfl rfl rfl (Nat.le_of_ble_eq_true rfl) (Nat.le_of_ble_eq_true rfl) (hW _ S) (fun r7 H7 q7 => ?_)
  obtain ⟨v7, m7, γ7, t7, rfl, hv7, S, hW⟩ := q7
  show wp _ _ _ _ _ [.int (iI v7)] _ _
  refine wp_g (n := 4) (pc' := 1075) (L' := [some (.ref 1002000), some (.ref 0), some (.ref 158), some (.int (iI y3))]) (st' := [.int (iI 1), .int (iI y3), .ref 1002000, .ref 158, .int (iI v7)]) rfl ?_
  refine wp_add (a := y3) (b := 1) rfl ?_
  refine wp_scr rfl p1 ?_
  have hr8 : rJ (scr E (((y3 + 1)).toNat)) := i32_rg _
  refine wp_g (n := 3) (pc' := 1080) (L' := [some (.ref 1002000), some (.ref 0), some (.ref 158), some (.int (iI y3))]) (st' := [.int (iI 2), .int (iI y3), .ref 1002000, .int (iI (scr E (((y3 + 1)).toNat))), .ref 158, .int (iI v7)]) rfl ?_
  refine wp_add (a := y3) (b := 2) rfl ?_
  refine wp_scr rfl p3 ?_
  have hr9 : rJ (scr E (((y3 + 2)).toNat)) := i32_rg _
  refine wp_g (n := 3) (pc' := 1085) (L' := [some (.ref 1002000), some (.ref 0), some (.ref 158), some (.int (iI y3))]) (st' := [.int (iI 3), .int (iI y3), .ref 1002000, .int (iI (scr E (((y3 + 2)).toNat))), .int (iI (scr E (((y3 + 1)).toNat))), .ref 158, .int (iI v7)]) rfl ?_
  refine wp_add (a := y3) (b := 3) rfl ?_
  refine wp_scr rfl p5 ?_
  have hr10 : rJ (scr E (((y3 + 3)).toNat)) := i32_rg _
  refine wp_cv (As := [.int (iI (scr E (((y3 + 1)).toNat))), .int (iI (scr E (((y3 + 2)).toNat))), .int (iI (scr E (((y3 + 3)).toNat)))]) (rest := [.int (iI v7)]) rfl rfl (S.cell 158 (nc rfl)) (by decide) rfl rfl rfl (Nat.le_of_ble_eq_true rfl) (Nat.le_of_ble_eq_true rfl) (hW _ S) (fun r11 H11 q11 => ?_)
  obtain ⟨v11, m11, γ11, t11, rfl, hv11, S, hW⟩ := q11
  show wp _ _ _ _ _ [.int (iI v11), .int (iI v7)] _ _
  refine wp_icmpI (a := v7) (b := v11) rfl rfl hv7.1 hv7.2 hv11.1 hv11.2 (fun c12 => ?_) (fun c12 => ?_)
  · have dc12 := c12
    have hW := hW.1 dc12
    exact hW _ S
  · have dc12 := c12
    have hW := hW.2 dc12
    refine wp_g (n := 1) (pc' := 1094) (L' := [some (.ref 1002000), some (.ref 0), some (.ref 158), some (.int (iI y3))]) (st' := [.int (iI 0)]) rfl ?_
    exact wp_zret rfl rfl (by decide) ⟨_, _, _, _, rfl, (by decide), S, hW⟩
set_option maxRecDepth 100000 in
theorem vc_L_law_1095 {E : am_E} {k : Nat} {y3 : Int} {m : MM} {γ : GM} {t : am_H} {Q : Int → MM → GM → am_H → Prop} (hy3 : rJ y3) (hW : W_L_law_1095 E k y3 m γ t Q) : hd_L_law_1095 E k y3 m γ t Q := by
  unfold W_L_law_1095 at hW
  intro h S
  refine wp_g (n := 4) (pc' := 1099) (L' := [some (.ref 1002000), some (.ref 0), some (.ref 158), some (.int (iI y3))]) (st' := [.int (iI 1), .int (iI y3), .ref 1002000, .ref 0]) rfl ?_
  refine wp_add (a := y3) (b := 1) rfl ?_
  obtain ⟨p1, hW⟩ := hW
  refine wp_scr rfl p1 ?_
  have hr2 : rJ (scr E (((y3 + 1)).toNat)) := i32_rg _
  refine wp_g (n := 3) (pc' := 1104) (L' := [some (.ref 1002000), some (.ref 0), some (.ref 158), some (.int (iI y3))]) (st' := [.int (iI 2), .int (iI y3), .ref 1002000, .int (iI (scr E (((y3 + 1)).toNat))), .ref 0]) rfl ?_
  refine wp_add (a := y3) (b := 2) rfl ?_
  obtain ⟨p3, hW⟩ := hW
  refine wp_scr rfl p3 ?_
  have hr4 : rJ (scr E (((y3 + 2)).toNat)) := i32_rg _
  refine wp_g (n := 3) (pc' := 1109) (L' := [some (.ref 1002000), some (.ref 0), some (.ref 158), some (.int (iI y3))]) (st' := [.int (iI 3), .int (iI y3), .ref 1002000, .int (iI (scr E (((y3 + 2)).toNat))), .int (iI (scr E (((y3 + 1)).toNat))), .ref 0]) rfl ?_
  refine wp_add (a := y3) (b := 3) rfl ?_
  obtain ⟨p5, hW⟩ := hW
  refine wp_scr rfl p5 ?_
  have hr6 : rJ (scr E (((y3 + 3)).toNat)) := i32_rg _
  refine wp_cv (As := [.int (iI (scr E (((y3 + 1)).toNat))), .int (iI (scr E (((y3 + 2)).toNat))), .int (iI (scr E (((y3 + 3)).toNat)))]) (rest := []) rfl rfl (S.cell 0 (nc rfl)) (by decide) rfl rfl rfl (Nat.le_of_ble_eq_true rfl) (Nat.le_of_ble_eq_true rfl) (hW _ S) (fun r7 H7 q7 => ?_)
  obtain ⟨v7, m7, γ7, t7, rfl, hv7, S, hW⟩ := q7
  show wp _ _ _ _ _ [.int (iI v7)] _ _
  refine wp_g (n := 4) (pc' := 1118) (L' := [some (.ref 1002000), some (.ref 0), some (.ref 158), some (.int (iI y3))]) (st' := [.int (iI 1), .int (iI y3), .ref 1002000, .ref 158, .int (iI v7)]) rfl ?_
  refine wp_add (a := y3) (b := 1) rfl ?_
  refine wp_scr rfl p1 ?_
  have hr8 : rJ (scr E (((y3 + 1)).toNat)) := i32_rg _
  refine wp_g (n := 3) (pc' := 1123) (L' := [some (.ref 1002000), some (.ref 0), some (.ref 158), some (.int (iI y3))]) (st' := [.int (iI 2), .int (iI y3), .ref 1002000, .int (iI (scr E (((y3 + 1)).toNat))), .ref 158, .int (iI v7)]) rfl ?_
  refine wp_add (a := y3) (b := 2) rfl ?_
  refine wp_scr rfl p3 ?_
  have hr9 : rJ (scr E (((y3 + 2)).toNat)) := i32_rg _
  refine wp_g (n := 3) (pc' := 1128) (L' := [some (.ref 1002000), some (.ref 0), some (.ref 158), some (.int (iI y3))]) (st' := [.int (iI 3), .int (iI y3), .ref 1002000, .int (iI (scr E (((y3 + 2)).toNat))), .int (iI (scr E (((y3 + 1)).toNat))), .ref 158, .int (iI v7)]) rfl ?_
  refine wp_add (a := y3) (b := 3) rfl ?_
  refine wp_scr rfl p5 ?_
  have hr10 : rJ (scr E (((y3 + 3)).toNat)) := i32_rg _
  refine wp_cv (As := [.int (iI (scr E (((y3 + 1)).toNat))), .int (iI (scr E (((y3 + 2)).toNat))), .int (iI (scr E (((y3 + 3)).toNat)))]) (rest := [.int (iI v7)]) rfl rfl (S.cell 158 (nc rfl)) (by decide) rfl rfl rfl (Nat.le_of_ble_eq_true rfl) (Nat.le_of_ble_eq_true rfl) (hW _ S) (fun r11 H11 q11 => ?_)
  obtain ⟨v11, m11, γ11, t11, rfl, hv11, S, hW⟩ := q11
  show wp _ _ _ _ _ [.int (iI v11), .int (iI v7)] _ _
  refine wp_icmpI (a := v7) (b := v11) rfl rfl hv7.1 hv7.2 hv11.1 hv11.2 (fun c12 => ?_) (fun c12 => ?_)
  · have dc12 := c12
    have hW := hW.1 dc12
    exact hW _ S
  · have dc12 := c12
    have hW := hW.2 dc12
    refine wp_g (n := 1) (pc' := 1137) (L' := [some (.ref 1002000), some (.ref 0), some (.ref 158), some (.int (iI y3))]) (st' := [.int (iI 0)]) rfl ?_
    exact wp_zret rfl rfl (by decide) ⟨_, _, _, _, rfl, (by decide), S, hW⟩
set_option maxRecDepth 100000 in
theorem vc_L_law_1138 {E : am_E} {k : Nat} {y3 : Int} {m : MM} {γ : GM} {t : am_H} {Q : Int → MM → GM → am_H → Prop} (hy3 : rJ y3) (hW : W_L_law_1138 E k y3 m γ t Q) : hd_L_law_1138 E k y3 m γ t Q := by
  unfold W_L_law_1138 at hW
  intro h S
  refine wp_g (n := 4) (pc' := 1142) (L' := [some (.ref 1002000), some (.ref 0), some (.ref 158), some (.int (iI y3))]) (st' := [.int (iI 1), .int (iI y3), .ref 1002000, .ref 0]) rfl ?_
  refine wp_add (a := y3) (b := 1) rfl ?_
  obtain ⟨p1, hW⟩ := hW
  refine wp_scr rfl p1 ?_
  have hr2 : rJ (scr E (((y3 + 1)).toNat)) := i32_rg _
  refine wp_g (n := 3) (pc' := 1147) (L' := [some (.ref 1002000), some (.ref 0), some (.ref 158), some (.int (iI y3))]) (st' := [.int (iI 2), .int (iI y3), .ref 1002000, .int (iI (scr E (((y3 + 1)).toNat))), .ref 0]) rfl ?_
  refine wp_add (a := y3) (b := 2) rfl ?_
  obtain ⟨p3, hW⟩ := hW
  refine wp_scr rfl p3 ?_
  have hr4 : rJ (scr E (((y3 + 2)).toNat)) := i32_rg _
  refine wp_g (n := 3) (pc' := 1152) (L' := [some (.ref 1002000), some (.ref 0), some (.ref 158), some (.int (iI y3))]) (st' := [.int (iI 3), .int (iI y3), .ref 1002000, .int (iI (scr E (((y3 + 2)).toNat))), .int (iI (scr E (((y3 + 1)).toNat))), .ref 0]) rfl ?_
  refine wp_add (a := y3) (b := 3) rfl ?_
  obtain ⟨p5, hW⟩ := hW
  refine wp_scr rfl p5 ?_
  have hr6 : rJ (scr E (((y3 + 3)).toNat)) := i32_rg _
  refine wp_cv (As := [.int (iI (scr E (((y3 + 1)).toNat))), .int (iI (scr E (((y3 + 2)).toNat))), .int (iI (scr E (((y3 + 3)).toNat)))]) (rest := []) rfl rfl (S.cell 0 (nc rfl)) (by decide) rfl rfl rfl (Nat.le_of_ble_eq_true rfl) (Nat.le_of_ble_eq_true rfl) (hW _ S) (fun r7 H7 q7 => ?_)
  obtain ⟨v7, m7, γ7, t7, rfl, hv7, S, hW⟩ := q7
  show wp _ _ _ _ _ [.int (iI v7)] _ _
  refine wp_g (n := 4) (pc' := 1161) (L' := [some (.ref 1002000), some (.ref 0), some (.ref 158), some (.int (iI y3))]) (st' := [.int (iI 1), .int (iI y3), .ref 1002000, .ref 158, .int (iI v7)]) rfl ?_
  refine wp_add (a := y3) (b := 1) rfl ?_
  refine wp_scr rfl p1 ?_
  have hr8 : rJ (scr E (((y3 + 1)).toNat)) := i32_rg _
  refine wp_g (n := 3) (pc' := 1166) (L' := [some (.ref 1002000), some (.ref 0), some (.ref 158), some (.int (iI y3))]) (st' := [.int (iI 2), .int (iI y3), .ref 1002000, .int (iI (scr E (((y3 + 1)).toNat))), .ref 158, .int (iI v7)]) rfl ?_
  refine wp_add (a := y3) (b := 2) rfl ?_
  refine wp_scr rfl p3 ?_
  have hr9 : rJ (scr E (((y3 + 2)).toNat)) := i32_rg _
  refine wp_g (n := 3) (pc' := 1171) (L' := [some (.ref 1002000), some (.ref 0), some (.ref 158), some (.int (iI y3))]) (st' := [.int (iI 3), .int (iI y3), .ref 1002000, .int (iI (scr E (((y3 + 2)).toNat))), .int (iI (scr E (((y3 + 1)).toNat))), .ref 158, .int (iI v7)]) rfl ?_
  refine wp_add (a := y3) (b := 3) rfl ?_
  refine wp_scr rfl p5 ?_
  have hr10 : rJ (scr E (((y3 + 3)).toNat)) := i32_rg _
  refine wp_cv (As := [.int (iI (scr E (((y3 + 1)).toNat))), .int (iI (scr E (((y3 + 2)).toNat))), .int (iI (scr E (((y3 + 3)).toNat)))]) (rest := [.int (iI v7)]) rfl rfl (S.cell 158 (nc rfl)) (by decide) rfl rfl rfl (Nat.le_of_ble_eq_true rfl) (Nat.le_of_ble_eq_true rfl) (hW _ S) (fun r11 H11 q11 => ?_)
  obtain ⟨v11, m11, γ11, t11, rfl, hv11, S, hW⟩ := q11
  show wp _ _ _ _ _ [.int (iI v11), .int (iI v7)] _ _
  refine wp_icmpI (a := v7) (b := v11) rfl rfl hv7.1 hv7.2 hv11.1 hv11.2 (fun c12 => ?_) (fun c12 => ?_)
  · have dc12 := c12
    have hW := hW.1 dc12
    exact hW _ S
  · have dc12 := c12
    have hW := hW.2 dc12
    refine wp_g (n := 1) (pc' := 1180) (L' := [some (.ref 1002000), some (.ref 0), some (.ref 158), some (.int (iI y3))]) (st' := [.int (iI 0)]) rfl ?_
    exact wp_zret rfl rfl (by decide) ⟨_, _, _, _, rfl, (by decide), S, hW⟩
set_option maxRecDepth 100000 in
theorem vc_L_law_1181 {E : am_E} {k : Nat} {y3 : Int} {m : MM} {γ : GM} {t : am_H} {Q : Int → MM → GM → am_H → Prop} (hy3 : rJ y3) (hW : W_L_law_1181 E k y3 m γ t Q) : hd_L_law_1181 E k y3 m γ t Q := by
  unfold W_L_law_1181 at hW
  intro h S
  refine wp_g (n := 4) (pc' := 1185) (L' := [some (.ref 1002000), some (.ref 0), some (.ref 158), some (.int (iI y3))]) (st' := [.int (iI 1), .int (iI y3), .ref 1002000, .ref 0]) rfl ?_
  refine wp_add (a := y3) (b := 1) rfl ?_
  obtain ⟨p1, hW⟩ := hW
  refine wp_scr rfl p1 ?_
  have hr2 : rJ (scr E (((y3 + 1)).toNat)) := i32_rg _
  refine wp_g (n := 3) (pc' := 1190) (L' := [some (.ref 1002000), some (.ref 0), some (.ref 158), some (.int (iI y3))]) (st' := [.int (iI 2), .int (iI y3), .ref 1002000, .int (iI (scr E (((y3 + 1)).toNat))), .ref 0]) rfl ?_
  refine wp_add (a := y3) (b := 2) rfl ?_
  obtain ⟨p3, hW⟩ := hW
  refine wp_scr rfl p3 ?_
  have hr4 : rJ (scr E (((y3 + 2)).toNat)) := i32_rg _
  refine wp_i2l (a := (scr E (((y3 + 2)).toNat))) rfl hr4 ?_
  refine wp_g (n := 1) (pc' := 1195) (L' := [some (.ref 1002000), some (.ref 0), some (.ref 158), some (.int (iI y3))]) (st' := [.int (iI 32), .long (lI (scr E (((y3 + 2)).toNat))), .int (iI (scr E (((y3 + 1)).toNat))), .ref 0]) rfl ?_
  refine wp_lShl (a := (scr E (((y3 + 2)).toNat))) (b := 32) rfl ?_
  have hr5 : rK (lShl (scr E (((y3 + 2)).toNat)) 32) := i64_rg _
  refine wp_g (n := 3) (pc' := 1199) (L' := [some (.ref 1002000), some (.ref 0), some (.ref 158), some (.int (iI y3))]) (st' := [.int (iI 3), .int (iI y3), .ref 1002000, .long (lI (lShl (scr E (((y3 + 2)).toNat)) 32)), .int (iI (scr E (((y3 + 1)).toNat))), .ref 0]) rfl ?_
  refine wp_add (a := y3) (b := 3) rfl ?_
  obtain ⟨p6, hW⟩ := hW
  refine wp_scr rfl p6 ?_
  have hr7 : rJ (scr E (((y3 + 3)).toNat)) := i32_rg _
  refine wp_i2l (a := (scr E (((y3 + 3)).toNat))) rfl hr7 ?_
  refine wp_g (n := 1) (pc' := 1205) (L' := [some (.ref 1002000), some (.ref 0), some (.ref 158), some (.int (iI y3))]) (st' := [.long (lI 4294967295), .long (lI (scr E (((y3 + 3)).toNat))), .long (lI (lShl (scr E (((y3 + 2)).toNat)) 32)), .int (iI (scr E (((y3 + 1)).toNat))), .ref 0]) rfl ?_
  refine wp_lAnd (a := (scr E (((y3 + 3)).toNat))) (b := 4294967295) rfl ?_
  have hr8 : rK (lAnd (scr E (((y3 + 3)).toNat)) 4294967295) := i64_rg _
  refine wp_lOr (a := (lShl (scr E (((y3 + 2)).toNat)) 32)) (b := (lAnd (scr E (((y3 + 3)).toNat)) 4294967295)) rfl ?_
  have hr9 : rK (lOr (lShl (scr E (((y3 + 2)).toNat)) 32) (lAnd (scr E (((y3 + 3)).toNat)) 4294967295)) := i64_rg _
  refine wp_cv (As := [.int (iI (scr E (((y3 + 1)).toNat))), .long (lI (lOr (lShl (scr E (((y3 + 2)).toNat)) 32) (lAnd (scr E (((y3 + 3)).toNat)) 4294967295)))]) (rest := []) rfl rfl (S.cell 0 (nc rfl)) (by decide) rfl rfl rfl (Nat.le_of_ble_eq_true rfl) (Nat.le_of_ble_eq_true rfl) (hW _ S) (fun r10 H10 q10 => ?_)
  obtain ⟨v10, m10, γ10, t10, rfl, hv10, S, hW⟩ := q10
  show wp _ _ _ _ _ [.int (iI v10)] _ _
  refine wp_g (n := 4) (pc' := 1214) (L' := [some (.ref 1002000), some (.ref 0), some (.ref 158), some (.int (iI y3))]) (st' := [.int (iI 1), .int (iI y3), .ref 1002000, .ref 158, .int (iI v10)]) rfl ?_
  refine wp_add (a := y3) (b := 1) rfl ?_
  refine wp_scr rfl p1 ?_
  have hr11 : rJ (scr E (((y3 + 1)).toNat)) := i32_rg _
  refine wp_g (n := 3) (pc' := 1219) (L' := [some (.ref 1002000), some (.ref 0), some (.ref 158), some (.int (iI y3))]) (st' := [.int (iI 2), .int (iI y3), .ref 1002000, .int (iI (scr E (((y3 + 1)).toNat))), .ref 158, .int (iI v10)]) rfl ?_
  refine wp_add (a := y3) (b := 2) rfl ?_
  refine wp_scr rfl p3 ?_
  have hr12 : rJ (scr E (((y3 + 2)).toNat)) := i32_rg _
  refine wp_i2l (a := (scr E (((y3 + 2)).toNat))) rfl hr12 ?_
  refine wp_g (n := 1) (pc' := 1224) (L' := [some (.ref 1002000), some (.ref 0), some (.ref 158), some (.int (iI y3))]) (st' := [.int (iI 32), .long (lI (scr E (((y3 + 2)).toNat))), .int (iI (scr E (((y3 + 1)).toNat))), .ref 158, .int (iI v10)]) rfl ?_
  refine wp_lShl (a := (scr E (((y3 + 2)).toNat))) (b := 32) rfl ?_
  have hr13 : rK (lShl (scr E (((y3 + 2)).toNat)) 32) := i64_rg _
  refine wp_g (n := 3) (pc' := 1228) (L' := [some (.ref 1002000), some (.ref 0), some (.ref 158), some (.int (iI y3))]) (st' := [.int (iI 3), .int (iI y3), .ref 1002000, .long (lI (lShl (scr E (((y3 + 2)).toNat)) 32)), .int (iI (scr E (((y3 + 1)).toNat))), .ref 158, .int (iI v10)]) rfl ?_
  refine wp_add (a := y3) (b := 3) rfl ?_
  refine wp_scr rfl p6 ?_
  have hr14 : rJ (scr E (((y3 + 3)).toNat)) := i32_rg _
  refine wp_i2l (a := (scr E (((y3 + 3)).toNat))) rfl hr14 ?_
  refine wp_g (n := 1) (pc' := 1234) (L' := [some (.ref 1002000), some (.ref 0), some (.ref 158), some (.int (iI y3))]) (st' := [.long (lI 4294967295), .long (lI (scr E (((y3 + 3)).toNat))), .long (lI (lShl (scr E (((y3 + 2)).toNat)) 32)), .int (iI (scr E (((y3 + 1)).toNat))), .ref 158, .int (iI v10)]) rfl ?_
  refine wp_lAnd (a := (scr E (((y3 + 3)).toNat))) (b := 4294967295) rfl ?_
  have hr15 : rK (lAnd (scr E (((y3 + 3)).toNat)) 4294967295) := i64_rg _
  refine wp_lOr (a := (lShl (scr E (((y3 + 2)).toNat)) 32)) (b := (lAnd (scr E (((y3 + 3)).toNat)) 4294967295)) rfl ?_
  have hr16 : rK (lOr (lShl (scr E (((y3 + 2)).toNat)) 32) (lAnd (scr E (((y3 + 3)).toNat)) 4294967295)) := i64_rg _
  refine wp_cv (As := [.int (iI (scr E (((y3 + 1)).toNat))), .long (lI (lOr (lShl (scr E (((y3 + 2)).toNat)) 32) (lAnd (scr E (((y3 + 3)).toNat)) 4294967295)))]) (rest := [.int (iI v10)]) rfl rfl (S.cell 158 (nc rfl)) (by decide) rfl rfl rfl (Nat.le_of_ble_eq_true rfl) (Nat.le_of_ble_eq_true rfl) (hW _ S) (fun r17 H17 q17 => ?_)
  obtain ⟨v17, m17, γ17, t17, rfl, hv17, S, hW⟩ := q17
  show wp _ _ _ _ _ [.int (iI v17), .int (iI v10)] _ _
  refine wp_icmpI (a := v10) (b := v17) rfl rfl hv10.1 hv10.2 hv17.1 hv17.2 (fun c18 => ?_) (fun c18 => ?_)
  · have dc18 := c18
    have hW := hW.1 dc18
    exact hW _ S
  · have dc18 := c18
    have hW := hW.2 dc18
    refine wp_g (n := 1) (pc' := 1243) (L' := [some (.ref 1002000), some (.ref 0), some (.ref 158), some (.int (iI y3))]) (st' := [.int (iI 0)]) rfl ?_
    exact wp_zret rfl rfl (by decide) ⟨_, _, _, _, rfl, (by decide), S, hW⟩
set_option maxRecDepth 100000 in
theorem vc_L_law_1244 {E : am_E} {k : Nat} {y3 : Int} {m : MM} {γ : GM} {t : am_H} {Q : Int → MM → GM → am_H → Prop} (hy3 : rJ y3) (hW : W_L_law_1244 E k y3 m γ t Q) : hd_L_law_1244 E k y3 m γ t Q := by
  unfold W_L_law_1244 at hW
  intro h S
  refine wp_g (n := 4) (pc' := 1248) (L' := [some (.ref 1002000), some (.ref 0), some (.ref 158), some (.int (iI y3))]) (st' := [.int (iI 1), .int (iI y3), .ref 1002000, .ref 0]) rfl ?_
  refine wp_add (a := y3) (b := 1) rfl ?_
  obtain ⟨p1, hW⟩ := hW
  refine wp_scr rfl p1 ?_
  have hr2 : rJ (scr E (((y3 + 1)).toNat)) := i32_rg _
  refine wp_g (n := 3) (pc' := 1253) (L' := [some (.ref 1002000), some (.ref 0), some (.ref 158), some (.int (iI y3))]) (st' := [.int (iI 2), .int (iI y3), .ref 1002000, .int (iI (scr E (((y3 + 1)).toNat))), .ref 0]) rfl ?_
  refine wp_add (a := y3) (b := 2) rfl ?_
  obtain ⟨p3, hW⟩ := hW
  refine wp_scr rfl p3 ?_
  have hr4 : rJ (scr E (((y3 + 2)).toNat)) := i32_rg _
  refine wp_cv (As := [.int (iI (scr E (((y3 + 1)).toNat))), .int (iI (scr E (((y3 + 2)).toNat)))]) (rest := []) rfl rfl (S.cell 0 (nc rfl)) (by decide) rfl rfl rfl (Nat.le_of_ble_eq_true rfl) (Nat.le_of_ble_eq_true rfl) (hW _ S) (fun r5 H5 q5 => ?_)
  obtain ⟨v5, m5, γ5, t5, rfl, hv5, S, hW⟩ := q5
  show wp _ _ _ _ _ [.int (iI v5)] _ _
  refine wp_g (n := 4) (pc' := 1262) (L' := [some (.ref 1002000), some (.ref 0), some (.ref 158), some (.int (iI y3))]) (st' := [.int (iI 1), .int (iI y3), .ref 1002000, .ref 158, .int (iI v5)]) rfl ?_
  refine wp_add (a := y3) (b := 1) rfl ?_
  refine wp_scr rfl p1 ?_
  have hr6 : rJ (scr E (((y3 + 1)).toNat)) := i32_rg _
  refine wp_g (n := 3) (pc' := 1267) (L' := [some (.ref 1002000), some (.ref 0), some (.ref 158), some (.int (iI y3))]) (st' := [.int (iI 2), .int (iI y3), .ref 1002000, .int (iI (scr E (((y3 + 1)).toNat))), .ref 158, .int (iI v5)]) rfl ?_
  refine wp_add (a := y3) (b := 2) rfl ?_
  refine wp_scr rfl p3 ?_
  have hr7 : rJ (scr E (((y3 + 2)).toNat)) := i32_rg _
  refine wp_cv (As := [.int (iI (scr E (((y3 + 1)).toNat))), .int (iI (scr E (((y3 + 2)).toNat)))]) (rest := [.int (iI v5)]) rfl rfl (S.cell 158 (nc rfl)) (by decide) rfl rfl rfl (Nat.le_of_ble_eq_true rfl) (Nat.le_of_ble_eq_true rfl) (hW _ S) (fun r8 H8 q8 => ?_)
  obtain ⟨v8, m8, γ8, t8, rfl, hv8, S, hW⟩ := q8
  show wp _ _ _ _ _ [.int (iI v8), .int (iI v5)] _ _
  refine wp_icmpI (a := v5) (b := v8) rfl rfl hv5.1 hv5.2 hv8.1 hv8.2 (fun c9 => ?_) (fun c9 => ?_)
  · have dc9 := c9
    have hW := hW.1 dc9
    exact hW _ S
  · have dc9 := c9
    have hW := hW.2 dc9
    refine wp_g (n := 1) (pc' := 1276) (L' := [some (.ref 1002000), some (.ref 0), some (.ref 158), some (.int (iI y3))]) (st' := [.int (iI 0)]) rfl ?_
    exact wp_zret rfl rfl (by decide) ⟨_, _, _, _, rfl, (by decide), S, hW⟩
set_option maxRecDepth 100000 in
theorem vc_L_law_1277 {E : am_E} {k : Nat} {y3 : Int} {m : MM} {γ : GM} {t : am_H} {Q : Int → MM → GM → am_H → Prop} (hy3 : rJ y3) (hW : W_L_law_1277 E k y3 m γ t Q) : hd_L_law_1277 E k y3 m γ t Q := by
  unfold W_L_law_1277 at hW
  intro h S
  refine wp_g (n := 4) (pc' := 1281) (L' := [some (.ref 1002000), some (.ref 0), some (.ref 158), some (.int (iI y3))]) (st' := [.int (iI 1), .int (iI y3), .ref 1002000, .ref 0]) rfl ?_
  refine wp_add (a := y3) (b := 1) rfl ?_
  obtain ⟨p1, hW⟩ := hW
  refine wp_scr rfl p1 ?_
  have hr2 : rJ (scr E (((y3 + 1)).toNat)) := i32_rg _
  refine wp_g (n := 3) (pc' := 1286) (L' := [some (.ref 1002000), some (.ref 0), some (.ref 158), some (.int (iI y3))]) (st' := [.int (iI 2), .int (iI y3), .ref 1002000, .int (iI (scr E (((y3 + 1)).toNat))), .ref 0]) rfl ?_
  refine wp_add (a := y3) (b := 2) rfl ?_
  obtain ⟨p3, hW⟩ := hW
  refine wp_scr rfl p3 ?_
  have hr4 : rJ (scr E (((y3 + 2)).toNat)) := i32_rg _
  refine wp_cv (As := [.int (iI (scr E (((y3 + 1)).toNat))), .int (iI (scr E (((y3 + 2)).toNat)))]) (rest := []) rfl rfl (S.cell 0 (nc rfl)) (by decide) rfl rfl rfl (Nat.le_of_ble_eq_true rfl) (Nat.le_of_ble_eq_true rfl) (hW _ S) (fun r5 H5 q5 => ?_)
  obtain ⟨v5, m5, γ5, t5, rfl, hv5, S, hW⟩ := q5
  show wp _ _ _ _ _ [.long (lI v5)] _ _
  refine wp_g (n := 4) (pc' := 1295) (L' := [some (.ref 1002000), some (.ref 0), some (.ref 158), some (.int (iI y3))]) (st' := [.int (iI 1), .int (iI y3), .ref 1002000, .ref 158, .long (lI v5)]) rfl ?_
  refine wp_add (a := y3) (b := 1) rfl ?_
  refine wp_scr rfl p1 ?_
  have hr6 : rJ (scr E (((y3 + 1)).toNat)) := i32_rg _
  refine wp_g (n := 3) (pc' := 1300) (L' := [some (.ref 1002000), some (.ref 0), some (.ref 158), some (.int (iI y3))]) (st' := [.int (iI 2), .int (iI y3), .ref 1002000, .int (iI (scr E (((y3 + 1)).toNat))), .ref 158, .long (lI v5)]) rfl ?_
  refine wp_add (a := y3) (b := 2) rfl ?_
  refine wp_scr rfl p3 ?_
  have hr7 : rJ (scr E (((y3 + 2)).toNat)) := i32_rg _
  refine wp_cv (As := [.int (iI (scr E (((y3 + 1)).toNat))), .int (iI (scr E (((y3 + 2)).toNat)))]) (rest := [.long (lI v5)]) rfl rfl (S.cell 158 (nc rfl)) (by decide) rfl rfl rfl (Nat.le_of_ble_eq_true rfl) (Nat.le_of_ble_eq_true rfl) (hW _ S) (fun r8 H8 q8 => ?_)
  obtain ⟨v8, m8, γ8, t8, rfl, hv8, S, hW⟩ := q8
  show wp _ _ _ _ _ [.long (lI v8), .long (lI v5)] _ _
  refine wp_lcmp (a := v5) (b := v8) rfl hv5 hv8 ?_
  have hr9 : rJ (lcI v5 v8) := lcI_rg _ _
  refine wp_ifI (a := (lcI v5 v8)) rfl rfl hr9.1 hr9.2 (fun c10 => ?_) (fun c10 => ?_)
  · have dc10 := c10
    have hW := hW.1 dc10
    exact hW _ S
  · have dc10 := c10
    have hW := hW.2 dc10
    refine wp_g (n := 1) (pc' := 1310) (L' := [some (.ref 1002000), some (.ref 0), some (.ref 158), some (.int (iI y3))]) (st' := [.int (iI 0)]) rfl ?_
    exact wp_zret rfl rfl (by decide) ⟨_, _, _, _, rfl, (by decide), S, hW⟩
set_option maxRecDepth 100000 in
theorem vc_L_law_1311 {E : am_E} {k : Nat} {y3 : Int} {m : MM} {γ : GM} {t : am_H} {Q : Int → MM → GM → am_H → Prop} (hy3 : rJ y3) (hW : W_L_law_1311 E k y3 m γ t Q) : hd_L_law_1311 E k y3 m γ t Q := by
  unfold W_L_law_1311 at hW
  intro h S
  refine wp_g (n := 4) (pc' := 1315) (L' := [some (.ref 1002000), some (.ref 0), some (.ref 158), some (.int (iI y3))]) (st' := [.int (iI 1), .int (iI y3), .ref 1002000, .ref 0]) rfl ?_
  refine wp_add (a := y3) (b := 1) rfl ?_
  obtain ⟨p1, hW⟩ := hW
  refine wp_scr rfl p1 ?_
  have hr2 : rJ (scr E (((y3 + 1)).toNat)) := i32_rg _
  refine wp_g (n := 3) (pc' := 1320) (L' := [some (.ref 1002000), some (.ref 0), some (.ref 158), some (.int (iI y3))]) (st' := [.int (iI 2), .int (iI y3), .ref 1002000, .int (iI (scr E (((y3 + 1)).toNat))), .ref 0]) rfl ?_
  refine wp_add (a := y3) (b := 2) rfl ?_
  obtain ⟨p3, hW⟩ := hW
  refine wp_scr rfl p3 ?_
  have hr4 : rJ (scr E (((y3 + 2)).toNat)) := i32_rg _
  refine wp_cv (As := [.int (iI (scr E (((y3 + 1)).toNat))), .int (iI (scr E (((y3 + 2)).toNat)))]) (rest := []) rfl rfl (S.cell 0 (nc rfl)) (by decide) rfl rfl rfl (Nat.le_of_ble_eq_true rfl) (Nat.le_of_ble_eq_true rfl) (hW _ S) (fun r5 H5 q5 => ?_)
  obtain ⟨v5, m5, γ5, t5, rfl, hv5, S, hW⟩ := q5
  show wp _ _ _ _ _ [.long (lI v5)] _ _
  refine wp_g (n := 4) (pc' := 1329) (L' := [some (.ref 1002000), some (.ref 0), some (.ref 158), some (.int (iI y3))]) (st' := [.int (iI 1), .int (iI y3), .ref 1002000, .ref 158, .long (lI v5)]) rfl ?_
  refine wp_add (a := y3) (b := 1) rfl ?_
  refine wp_scr rfl p1 ?_
  have hr6 : rJ (scr E (((y3 + 1)).toNat)) := i32_rg _
  refine wp_g (n := 3) (pc' := 1334) (L' := [some (.ref 1002000), some (.ref 0), some (.ref 158), some (.int (iI y3))]) (st' := [.int (iI 2), .int (iI y3), .ref 1002000, .int (iI (scr E (((y3 + 1)).toNat))), .ref 158, .long (lI v5)]) rfl ?_
  refine wp_add (a := y3) (b := 2) rfl ?_
  refine wp_scr rfl p3 ?_
  have hr7 : rJ (scr E (((y3 + 2)).toNat)) := i32_rg _
  refine wp_cv (As := [.int (iI (scr E (((y3 + 1)).toNat))), .int (iI (scr E (((y3 + 2)).toNat)))]) (rest := [.long (lI v5)]) rfl rfl (S.cell 158 (nc rfl)) (by decide) rfl rfl rfl (Nat.le_of_ble_eq_true rfl) (Nat.le_of_ble_eq_true rfl) (hW _ S) (fun r8 H8 q8 => ?_)
  obtain ⟨v8, m8, γ8, t8, rfl, hv8, S, hW⟩ := q8
  show wp _ _ _ _ _ [.long (lI v8), .long (lI v5)] _ _
  refine wp_lcmp (a := v5) (b := v8) rfl hv5 hv8 ?_
  have hr9 : rJ (lcI v5 v8) := lcI_rg _ _
  refine wp_ifI (a := (lcI v5 v8)) rfl rfl hr9.1 hr9.2 (fun c10 => ?_) (fun c10 => ?_)
  · have dc10 := c10
    have hW := hW.1 dc10
    exact hW _ S
  · have dc10 := c10
    have hW := hW.2 dc10
    refine wp_g (n := 1) (pc' := 1344) (L' := [some (.ref 1002000), some (.ref 0), some (.ref 158), some (.int (iI y3))]) (st' := [.int (iI 0)]) rfl ?_
    exact wp_zret rfl rfl (by decide) ⟨_, _, _, _, rfl, (by decide), S, hW⟩
set_option maxRecDepth 100000 in
theorem vc_L_law_1345 {E : am_E} {k : Nat} {y3 : Int} {m : MM} {γ : GM} {t : am_H} {Q : Int → MM → GM → am_H → Prop} (hy3 : rJ y3) (hW : W_L_law_1345 E k y3 m γ t Q) : hd_L_law_1345 E k y3 m γ t Q := by
  unfold W_L_law_1345 at hW
  intro h S
  refine wp_g (n := 4) (pc' := 1349) (L' := [some (.ref 1002000), some (.ref 0), some (.ref 158), some (.int (iI y3))]) (st' := [.int (iI 1), .int (iI y3), .ref 1002000, .ref 0]) rfl ?_
  refine wp_add (a := y3) (b := 1) rfl ?_
  obtain ⟨p1, hW⟩ := hW
  refine wp_scr rfl p1 ?_
  have hr2 : rJ (scr E (((y3 + 1)).toNat)) := i32_rg _
  refine wp_cv (As := [.int (iI (scr E (((y3 + 1)).toNat)))]) (rest := []) rfl rfl (S.cell 0 (nc rfl)) (by decide) rfl rfl rfl (Nat.le_of_ble_eq_true rfl) (Nat.le_of_ble_eq_true rfl) (hW _ S) (fun r3 H3 q3 => ?_)
  obtain ⟨v3, m3, γ3, t3, rfl, hv3, S, hW⟩ := q3
  show wp _ _ _ _ _ [.long (lI v3)] _ _
  refine wp_g (n := 4) (pc' := 1358) (L' := [some (.ref 1002000), some (.ref 0), some (.ref 158), some (.int (iI y3))]) (st' := [.int (iI 1), .int (iI y3), .ref 1002000, .ref 158, .long (lI v3)]) rfl ?_
  refine wp_add (a := y3) (b := 1) rfl ?_
  refine wp_scr rfl p1 ?_
  have hr4 : rJ (scr E (((y3 + 1)).toNat)) := i32_rg _
  refine wp_cv (As := [.int (iI (scr E (((y3 + 1)).toNat)))]) (rest := [.long (lI v3)]) rfl rfl (S.cell 158 (nc rfl)) (by decide) rfl rfl rfl (Nat.le_of_ble_eq_true rfl) (Nat.le_of_ble_eq_true rfl) (hW _ S) (fun r5 H5 q5 => ?_)
  obtain ⟨v5, m5, γ5, t5, rfl, hv5, S, hW⟩ := q5
  show wp _ _ _ _ _ [.long (lI v5), .long (lI v3)] _ _
  refine wp_lcmp (a := v3) (b := v5) rfl hv3 hv5 ?_
  have hr6 : rJ (lcI v3 v5) := lcI_rg _ _
  refine wp_ifI (a := (lcI v3 v5)) rfl rfl hr6.1 hr6.2 (fun c7 => ?_) (fun c7 => ?_)
  · have dc7 := c7
    have hW := hW.1 dc7
    exact hW _ S
  · have dc7 := c7
    have hW := hW.2 dc7
    refine wp_g (n := 1) (pc' := 1368) (L' := [some (.ref 1002000), some (.ref 0), some (.ref 158), some (.int (iI y3))]) (st' := [.int (iI 0)]) rfl ?_
    exact wp_zret rfl rfl (by decide) ⟨_, _, _, _, rfl, (by decide), S, hW⟩
set_option maxRecDepth 100000 in
theorem vc_L_law_1369 {E : am_E} {k : Nat} {y3 : Int} {m : MM} {γ : GM} {t : am_H} {Q : Int → MM → GM → am_H → Prop} (hy3 : rJ y3) (hW : W_L_law_1369 E k y3 m γ t Q) : hd_L_law_1369 E k y3 m γ t Q := by
  unfold W_L_law_1369 at hW
  intro h S
  refine wp_g (n := 4) (pc' := 1373) (L' := [some (.ref 1002000), some (.ref 0), some (.ref 158), some (.int (iI y3))]) (st' := [.int (iI 1), .int (iI y3), .ref 1002000, .ref 0]) rfl ?_
  refine wp_add (a := y3) (b := 1) rfl ?_
  obtain ⟨p1, hW⟩ := hW
  refine wp_scr rfl p1 ?_
  have hr2 : rJ (scr E (((y3 + 1)).toNat)) := i32_rg _
  refine wp_g (n := 3) (pc' := 1378) (L' := [some (.ref 1002000), some (.ref 0), some (.ref 158), some (.int (iI y3))]) (st' := [.int (iI 2), .int (iI y3), .ref 1002000, .int (iI (scr E (((y3 + 1)).toNat))), .ref 0]) rfl ?_
  refine wp_add (a := y3) (b := 2) rfl ?_
  obtain ⟨p3, hW⟩ := hW
  refine wp_scr rfl p3 ?_
  have hr4 : rJ (scr E (((y3 + 2)).toNat)) := i32_rg _
  refine wp_cv (As := [.int (iI (scr E (((y3 + 1)).toNat))), .int (iI (scr E (((y3 + 2)).toNat)))]) (rest := []) rfl rfl (S.cell 0 (nc rfl)) (by decide) rfl rfl rfl (Nat.le_of_ble_eq_true rfl) (Nat.le_of_ble_eq_true rfl) (hW _ S) (fun r5 H5 q5 => ?_)
  obtain ⟨v5, m5, γ5, t5, rfl, hv5, S, hW⟩ := q5
  show wp _ _ _ _ _ [.int (iI v5)] _ _
  refine wp_g (n := 4) (pc' := 1387) (L' := [some (.ref 1002000), some (.ref 0), some (.ref 158), some (.int (iI y3))]) (st' := [.int (iI 1), .int (iI y3), .ref 1002000, .ref 158, .int (iI v5)]) rfl ?_
  refine wp_add (a := y3) (b := 1) rfl ?_
  refine wp_scr rfl p1 ?_
  have hr6 : rJ (scr E (((y3 + 1)).toNat)) := i32_rg _
  refine wp_g (n := 3) (pc' := 1392) (L' := [some (.ref 1002000), some (.ref 0), some (.ref 158), some (.int (iI y3))]) (st' := [.int (iI 2), .int (iI y3), .ref 1002000, .int (iI (scr E (((y3 + 1)).toNat))), .ref 158, .int (iI v5)]) rfl ?_
  refine wp_add (a := y3) (b := 2) rfl ?_
  refine wp_scr rfl p3 ?_
  have hr7 : rJ (scr E (((y3 + 2)).toNat)) := i32_rg _
  refine wp_cv (As := [.int (iI (scr E (((y3 + 1)).toNat))), .int (iI (scr E (((y3 + 2)).toNat)))]) (rest := [.int (iI v5)]) rfl rfl (S.cell 158 (nc rfl)) (by decide) rfl rfl rfl (Nat.le_of_ble_eq_true rfl) (Nat.le_of_ble_eq_true rfl) (hW _ S) (fun r8 H8 q8 => ?_)
  obtain ⟨v8, m8, γ8, t8, rfl, hv8, S, hW⟩ := q8
  show wp _ _ _ _ _ [.int (iI v8), .int (iI v5)] _ _
  refine wp_icmpI (a := v5) (b := v8) rfl rfl hv5.1 hv5.2 hv8.1 hv8.2 (fun c9 => ?_) (fun c9 => ?_)
  · have dc9 := c9
    have hW := hW.1 dc9
    exact hW _ S
  · have dc9 := c9
    have hW := hW.2 dc9
    refine wp_g (n := 1) (pc' := 1401) (L' := [some (.ref 1002000), some (.ref 0), some (.ref 158), some (.int (iI y3))]) (st' := [.int (iI 0)]) rfl ?_
    exact wp_zret rfl rfl (by decide) ⟨_, _, _, _, rfl, (by decide), S, hW⟩
set_option maxRecDepth 100000 in
theorem vc_L_law_1402 {E : am_E} {k : Nat} {y3 : Int} {m : MM} {γ : GM} {t : am_H} {Q : Int → MM → GM → am_H → Prop} (hy3 : rJ y3) (hW : W_L_law_1402 E k y3 m γ t Q) : hd_L_law_1402 E k y3 m γ t Q := by
  unfold W_L_law_1402 at hW
  intro h S
  refine wp_g (n := 4) (pc' := 1406) (L' := [some (.ref 1002000), some (.ref 0), some (.ref 158), some (.int (iI y3))]) (st' := [.int (iI 1), .int (iI y3), .ref 1002000, .ref 0]) rfl ?_
  refine wp_add (a := y3) (b := 1) rfl ?_
  obtain ⟨p1, hW⟩ := hW
  refine wp_scr rfl p1 ?_
  have hr2 : rJ (scr E (((y3 + 1)).toNat)) := i32_rg _
  refine wp_cv (As := [.int (iI (scr E (((y3 + 1)).toNat)))]) (rest := []) rfl rfl (S.cell 0 (nc rfl)) (by decide) rfl rfl rfl (Nat.le_of_ble_eq_true rfl) (Nat.le_of_ble_eq_true rfl) (hW _ S) (fun r3 H3 q3 => ?_)
  obtain ⟨v3, m3, γ3, t3, rfl, hv3, S, hW⟩ := q3
  show wp _ _ _ _ _ [.int (iI v3)] _ _
  refine wp_g (n := 4) (pc' := 1415) (L' := [some (.ref 1002000), some (.ref 0), some (.ref 158), some (.int (iI y3))]) (st' := [.int (iI 1), .int (iI y3), .ref 1002000, .ref 158, .int (iI v3)]) rfl ?_
  refine wp_add (a := y3) (b := 1) rfl ?_
  refine wp_scr rfl p1 ?_
  have hr4 : rJ (scr E (((y3 + 1)).toNat)) := i32_rg _
  refine wp_cv (As := [.int (iI (scr E (((y3 + 1)).toNat)))]) (rest := [.int (iI v3)]) rfl rfl (S.cell 158 (nc rfl)) (by decide) rfl rfl rfl (Nat.le_of_ble_eq_true rfl) (Nat.le_of_ble_eq_true rfl) (hW _ S) (fun r5 H5 q5 => ?_)
  obtain ⟨v5, m5, γ5, t5, rfl, hv5, S, hW⟩ := q5
  show wp _ _ _ _ _ [.int (iI v5), .int (iI v3)] _ _
  refine wp_icmpI (a := v3) (b := v5) rfl rfl hv3.1 hv3.2 hv5.1 hv5.2 (fun c6 => ?_) (fun c6 => ?_)
  · have dc6 := c6
    have hW := hW.1 dc6
    exact hW _ S
  · have dc6 := c6
    have hW := hW.2 dc6
    refine wp_g (n := 1) (pc' := 1424) (L' := [some (.ref 1002000), some (.ref 0), some (.ref 158), some (.int (iI y3))]) (st' := [.int (iI 0)]) rfl ?_
    exact wp_zret rfl rfl (by decide) ⟨_, _, _, _, rfl, (by decide), S, hW⟩
set_option maxRecDepth 100000 in
theorem vc_L_law_1425 {E : am_E} {k : Nat} {y3 : Int} {m : MM} {γ : GM} {t : am_H} {Q : Int → MM → GM → am_H → Prop} (hy3 : rJ y3) (hW : W_L_law_1425 E k y3 m γ t Q) : hd_L_law_1425 E k y3 m γ t Q := by
  unfold W_L_law_1425 at hW
  intro h S
  refine wp_g (n := 4) (pc' := 1429) (L' := [some (.ref 1002000), some (.ref 0), some (.ref 158), some (.int (iI y3))]) (st' := [.int (iI 1), .int (iI y3), .ref 1002000, .ref 0]) rfl ?_
  refine wp_add (a := y3) (b := 1) rfl ?_
  obtain ⟨p1, hW⟩ := hW
  refine wp_scr rfl p1 ?_
  have hr2 : rJ (scr E (((y3 + 1)).toNat)) := i32_rg _
  refine wp_cv (As := [.int (iI (scr E (((y3 + 1)).toNat)))]) (rest := []) rfl rfl (S.cell 0 (nc rfl)) (by decide) rfl rfl rfl (Nat.le_of_ble_eq_true rfl) (Nat.le_of_ble_eq_true rfl) (hW _ S) (fun r3 H3 q3 => ?_)
  obtain ⟨v3, m3, γ3, t3, rfl, hv3, S, hW⟩ := q3
  show wp _ _ _ _ _ [.int (iI v3)] _ _
  refine wp_g (n := 4) (pc' := 1438) (L' := [some (.ref 1002000), some (.ref 0), some (.ref 158), some (.int (iI y3))]) (st' := [.int (iI 1), .int (iI y3), .ref 1002000, .ref 158, .int (iI v3)]) rfl ?_
  refine wp_add (a := y3) (b := 1) rfl ?_
  refine wp_scr rfl p1 ?_
  have hr4 : rJ (scr E (((y3 + 1)).toNat)) := i32_rg _
  refine wp_cv (As := [.int (iI (scr E (((y3 + 1)).toNat)))]) (rest := [.int (iI v3)]) rfl rfl (S.cell 158 (nc rfl)) (by decide) rfl rfl rfl (Nat.le_of_ble_eq_true rfl) (Nat.le_of_ble_eq_true rfl) (hW _ S) (fun r5 H5 q5 => ?_)
  obtain ⟨v5, m5, γ5, t5, rfl, hv5, S, hW⟩ := q5
  show wp _ _ _ _ _ [.int (iI v5), .int (iI v3)] _ _
  refine wp_icmpI (a := v3) (b := v5) rfl rfl hv3.1 hv3.2 hv5.1 hv5.2 (fun c6 => ?_) (fun c6 => ?_)
  · have dc6 := c6
    have hW := hW.1 dc6
    exact hW _ S
  · have dc6 := c6
    have hW := hW.2 dc6
    refine wp_g (n := 1) (pc' := 1447) (L' := [some (.ref 1002000), some (.ref 0), some (.ref 158), some (.int (iI y3))]) (st' := [.int (iI 0)]) rfl ?_
    exact wp_zret rfl rfl (by decide) ⟨_, _, _, _, rfl, (by decide), S, hW⟩
set_option maxRecDepth 100000 in
theorem vc_L_law_1448 {E : am_E} {k : Nat} {y3 : Int} {m : MM} {γ : GM} {t : am_H} {Q : Int → MM → GM → am_H → Prop} (hy3 : rJ y3) (hW : W_L_law_1448 E k y3 m γ t Q) : hd_L_law_1448 E k y3 m γ t Q := by
  unfold W_L_law_1448 at hW
  intro h S
  refine wp_g (n := 4) (pc' := 1452) (L' := [some (.ref 1002000), some (.ref 0), some (.ref 158), some (.int (iI y3))]) (st' := [.int (iI 1), .int (iI y3), .ref 1002000, .ref 0]) rfl ?_
  refine wp_add (a := y3) (b := 1) rfl ?_
  obtain ⟨p1, hW⟩ := hW
  refine wp_scr rfl p1 ?_
  have hr2 : rJ (scr E (((y3 + 1)).toNat)) := i32_rg _
  refine wp_cv (As := [.int (iI (scr E (((y3 + 1)).toNat)))]) (rest := []) rfl rfl (S.cell 0 (nc rfl)) (by decide) rfl rfl rfl (Nat.le_of_ble_eq_true rfl) (Nat.le_of_ble_eq_true rfl) (hW _ S) (fun r3 H3 q3 => ?_)
  obtain ⟨v3, m3, γ3, t3, rfl, hv3, S, hW⟩ := q3
  show wp _ _ _ _ _ [.int (iI v3)] _ _
  refine wp_g (n := 4) (pc' := 1461) (L' := [some (.ref 1002000), some (.ref 0), some (.ref 158), some (.int (iI y3))]) (st' := [.int (iI 1), .int (iI y3), .ref 1002000, .ref 158, .int (iI v3)]) rfl ?_
  refine wp_add (a := y3) (b := 1) rfl ?_
  refine wp_scr rfl p1 ?_
  have hr4 : rJ (scr E (((y3 + 1)).toNat)) := i32_rg _
  refine wp_cv (As := [.int (iI (scr E (((y3 + 1)).toNat)))]) (rest := [.int (iI v3)]) rfl rfl (S.cell 158 (nc rfl)) (by decide) rfl rfl rfl (Nat.le_of_ble_eq_true rfl) (Nat.le_of_ble_eq_true rfl) (hW _ S) (fun r5 H5 q5 => ?_)
  obtain ⟨v5, m5, γ5, t5, rfl, hv5, S, hW⟩ := q5
  show wp _ _ _ _ _ [.int (iI v5), .int (iI v3)] _ _
  refine wp_icmpI (a := v3) (b := v5) rfl rfl hv3.1 hv3.2 hv5.1 hv5.2 (fun c6 => ?_) (fun c6 => ?_)
  · have dc6 := c6
    have hW := hW.1 dc6
    exact hW _ S
  · have dc6 := c6
    have hW := hW.2 dc6
    refine wp_g (n := 1) (pc' := 1470) (L' := [some (.ref 1002000), some (.ref 0), some (.ref 158), some (.int (iI y3))]) (st' := [.int (iI 0)]) rfl ?_
    exact wp_zret rfl rfl (by decide) ⟨_, _, _, _, rfl, (by decide), S, hW⟩
set_option maxRecDepth 100000 in
theorem vc_L_law_1471 {E : am_E} {k : Nat} {y3 : Int} {m : MM} {γ : GM} {t : am_H} {Q : Int → MM → GM → am_H → Prop} (hy3 : rJ y3) (hW : W_L_law_1471 E k y3 m γ t Q) : hd_L_law_1471 E k y3 m γ t Q := by
  unfold W_L_law_1471 at hW
  intro h S
  refine wp_g (n := 4) (pc' := 1475) (L' := [some (.ref 1002000), some (.ref 0), some (.ref 158), some (.int (iI y3))]) (st' := [.int (iI 1), .int (iI y3), .ref 1002000, .ref 0]) rfl ?_
  refine wp_add (a := y3) (b := 1) rfl ?_
  obtain ⟨p1, hW⟩ := hW
  refine wp_scr rfl p1 ?_
  have hr2 : rJ (scr E (((y3 + 1)).toNat)) := i32_rg _
  refine wp_g (n := 3) (pc' := 1480) (L' := [some (.ref 1002000), some (.ref 0), some (.ref 158), some (.int (iI y3))]) (st' := [.int (iI 2), .int (iI y3), .ref 1002000, .int (iI (scr E (((y3 + 1)).toNat))), .ref 0]) rfl ?_
  refine wp_add (a := y3) (b := 2) rfl ?_
  obtain ⟨p3, hW⟩ := hW
  refine wp_scr rfl p3 ?_
  have hr4 : rJ (scr E (((y3 + 2)).toNat)) := i32_rg _
  refine wp_g (n := 3) (pc' := 1485) (L' := [some (.ref 1002000), some (.ref 0), some (.ref 158), some (.int (iI y3))]) (st' := [.int (iI 3), .int (iI y3), .ref 1002000, .int (iI (scr E (((y3 + 2)).toNat))), .int (iI (scr E (((y3 + 1)).toNat))), .ref 0]) rfl ?_
  refine wp_add (a := y3) (b := 3) rfl ?_
  obtain ⟨p5, hW⟩ := hW
  refine wp_scr rfl p5 ?_
  have hr6 : rJ (scr E (((y3 + 3)).toNat)) := i32_rg _
  refine wp_cv (As := [.int (iI (scr E (((y3 + 1)).toNat))), .int (iI (scr E (((y3 + 2)).toNat))), .int (iI (scr E (((y3 + 3)).toNat)))]) (rest := []) rfl rfl (S.cell 0 (nc rfl)) (by decide) rfl rfl rfl (Nat.le_of_ble_eq_true rfl) (Nat.le_of_ble_eq_true rfl) (hW _ S) (fun r7 H7 q7 => ?_)
  obtain ⟨v7, m7, γ7, t7, rfl, hv7, S, hW⟩ := q7
  show wp _ _ _ _ _ [.int (iI v7)] _ _
  refine wp_g (n := 4) (pc' := 1494) (L' := [some (.ref 1002000), some (.ref 0), some (.ref 158), some (.int (iI y3))]) (st' := [.int (iI 1), .int (iI y3), .ref 1002000, .ref 158, .int (iI v7)]) rfl ?_
  refine wp_add (a := y3) (b := 1) rfl ?_
  refine wp_scr rfl p1 ?_
  have hr8 : rJ (scr E (((y3 + 1)).toNat)) := i32_rg _
  refine wp_g (n := 3) (pc' := 1499) (L' := [some (.ref 1002000), some (.ref 0), some (.ref 158), some (.int (iI y3))]) (st' := [.int (iI 2), .int (iI y3), .ref 1002000, .int (iI (scr E (((y3 + 1)).toNat))), .ref 158, .int (iI v7)]) rfl ?_
  refine wp_add (a := y3) (b := 2) rfl ?_
  refine wp_scr rfl p3 ?_
  have hr9 : rJ (scr E (((y3 + 2)).toNat)) := i32_rg _
  refine wp_g (n := 3) (pc' := 1504) (L' := [some (.ref 1002000), some (.ref 0), some (.ref 158), some (.int (iI y3))]) (st' := [.int (iI 3), .int (iI y3), .ref 1002000, .int (iI (scr E (((y3 + 2)).toNat))), .int (iI (scr E (((y3 + 1)).toNat))), .ref 158, .int (iI v7)]) rfl ?_
  refine wp_add (a := y3) (b := 3) rfl ?_
  refine wp_scr rfl p5 ?_
  have hr10 : rJ (scr E (((y3 + 3)).toNat)) := i32_rg _
  refine wp_cv (As := [.int (iI (scr E (((y3 + 1)).toNat))), .int (iI (scr E (((y3 + 2)).toNat))), .int (iI (scr E (((y3 + 3)).toNat)))]) (rest := [.int (iI v7)]) rfl rfl (S.cell 158 (nc rfl)) (by decide) rfl rfl rfl (Nat.le_of_ble_eq_true rfl) (Nat.le_of_ble_eq_true rfl) (hW _ S) (fun r11 H11 q11 => ?_)
  obtain ⟨v11, m11, γ11, t11, rfl, hv11, S, hW⟩ := q11
  show wp _ _ _ _ _ [.int (iI v11), .int (iI v7)] _ _
  refine wp_icmpI (a := v7) (b := v11) rfl rfl hv7.1 hv7.2 hv11.1 hv11.2 (fun c12 => ?_) (fun c12 => ?_)
  · have dc12 := c12
    have hW := hW.1 dc12
    exact hW _ S
  · have dc12 := c12
    have hW := hW.2 dc12
    refine wp_g (n := 1) (pc' := 1513) (L' := [some (.ref 1002000), some (.ref 0), some (.ref 158), some (.int (iI y3))]) (st' := [.int (iI 0)]) rfl ?_
    exact wp_zret rfl rfl (by decide) ⟨_, _, _, _, rfl, (by decide), S, hW⟩
set_option maxRecDepth 100000 in
theorem vc_L_law_1514 {E : am_E} {k : Nat} {y3 : Int} {m : MM} {γ : GM} {t : am_H} {Q : Int → MM → GM → am_H → Prop} (hy3 : rJ y3) (hW : W_L_law_1514 E k y3 m γ t Q) : hd_L_law_1514 E k y3 m γ t Q := by
  unfold W_L_law_1514 at hW
  intro h S
  refine wp_g (n := 4) (pc' := 1518) (L' := [some (.ref 1002000), some (.ref 0), some (.ref 158), some (.int (iI y3))]) (st' := [.int (iI 1), .int (iI y3), .ref 1002000, .ref 0]) rfl ?_
  refine wp_add (a := y3) (b := 1) rfl ?_
  obtain ⟨p1, hW⟩ := hW
  refine wp_scr rfl p1 ?_
  have hr2 : rJ (scr E (((y3 + 1)).toNat)) := i32_rg _
  refine wp_g (n := 3) (pc' := 1523) (L' := [some (.ref 1002000), some (.ref 0), some (.ref 158), some (.int (iI y3))]) (st' := [.int (iI 2), .int (iI y3), .ref 1002000, .int (iI (scr E (((y3 + 1)).toNat))), .ref 0]) rfl ?_
  refine wp_add (a := y3) (b := 2) rfl ?_
  obtain ⟨p3, hW⟩ := hW
  refine wp_scr rfl p3 ?_
  have hr4 : rJ (scr E (((y3 + 2)).toNat)) := i32_rg _
  refine wp_g (n := 3) (pc' := 1528) (L' := [some (.ref 1002000), some (.ref 0), some (.ref 158), some (.int (iI y3))]) (st' := [.int (iI 3), .int (iI y3), .ref 1002000, .int (iI (scr E (((y3 + 2)).toNat))), .int (iI (scr E (((y3 + 1)).toNat))), .ref 0]) rfl ?_
  refine wp_add (a := y3) (b := 3) rfl ?_
  obtain ⟨p5, hW⟩ := hW
  refine wp_scr rfl p5 ?_
  have hr6 : rJ (scr E (((y3 + 3)).toNat)) := i32_rg _
  refine wp_cv (As := [.int (iI (scr E (((y3 + 1)).toNat))), .int (iI (scr E (((y3 + 2)).toNat))), .int (iI (scr E (((y3 + 3)).toNat)))]) (rest := []) rfl rfl (S.cell 0 (nc rfl)) (by decide) rfl rfl rfl (Nat.le_of_ble_eq_true rfl) (Nat.le_of_ble_eq_true rfl) (hW _ S) (fun r7 H7 q7 => ?_)
  obtain ⟨v7, m7, γ7, t7, rfl, hv7, S, hW⟩ := q7
  show wp _ _ _ _ _ [.int (iI v7)] _ _
  refine wp_g (n := 4) (pc' := 1537) (L' := [some (.ref 1002000), some (.ref 0), some (.ref 158), some (.int (iI y3))]) (st' := [.int (iI 1), .int (iI y3), .ref 1002000, .ref 158, .int (iI v7)]) rfl ?_
  refine wp_add (a := y3) (b := 1) rfl ?_
  refine wp_scr rfl p1 ?_
  have hr8 : rJ (scr E (((y3 + 1)).toNat)) := i32_rg _
  refine wp_g (n := 3) (pc' := 1542) (L' := [some (.ref 1002000), some (.ref 0), some (.ref 158), some (.int (iI y3))]) (st' := [.int (iI 2), .int (iI y3), .ref 1002000, .int (iI (scr E (((y3 + 1)).toNat))), .ref 158, .int (iI v7)]) rfl ?_
  refine wp_add (a := y3) (b := 2) rfl ?_
  refine wp_scr rfl p3 ?_
  have hr9 : rJ (scr E (((y3 + 2)).toNat)) := i32_rg _
  refine wp_g (n := 3) (pc' := 1547) (L' := [some (.ref 1002000), some (.ref 0), some (.ref 158), some (.int (iI y3))]) (st' := [.int (iI 3), .int (iI y3), .ref 1002000, .int (iI (scr E (((y3 + 2)).toNat))), .int (iI (scr E (((y3 + 1)).toNat))), .ref 158, .int (iI v7)]) rfl ?_
  refine wp_add (a := y3) (b := 3) rfl ?_
  refine wp_scr rfl p5 ?_
  have hr10 : rJ (scr E (((y3 + 3)).toNat)) := i32_rg _
  refine wp_cv (As := [.int (iI (scr E (((y3 + 1)).toNat))), .int (iI (scr E (((y3 + 2)).toNat))), .int (iI (scr E (((y3 + 3)).toNat)))]) (rest := [.int (iI v7)]) rfl rfl (S.cell 158 (nc rfl)) (by decide) rfl rfl rfl (Nat.le_of_ble_eq_true rfl) (Nat.le_of_ble_eq_true rfl) (hW _ S) (fun r11 H11 q11 => ?_)
  obtain ⟨v11, m11, γ11, t11, rfl, hv11, S, hW⟩ := q11
  show wp _ _ _ _ _ [.int (iI v11), .int (iI v7)] _ _
  refine wp_icmpI (a := v7) (b := v11) rfl rfl hv7.1 hv7.2 hv11.1 hv11.2 (fun c12 => ?_) (fun c12 => ?_)
  · have dc12 := c12
    have hW := hW.1 dc12
    exact hW _ S
  · have dc12 := c12
    have hW := hW.2 dc12
    refine wp_g (n := 1) (pc' := 1556) (L' := [some (.ref 1002000), some (.ref 0), some (.ref 158), some (.int (iI y3))]) (st' := [.int (iI 0)]) rfl ?_
    exact wp_zret rfl rfl (by decide) ⟨_, _, _, _, rfl, (by decide), S, hW⟩
set_option maxRecDepth 100000 in
theorem vc_L_law_1557 {E : am_E} {k : Nat} {y3 : Int} {m : MM} {γ : GM} {t : am_H} {Q : Int → MM → GM → am_H → Prop} (hy3 : rJ y3) (hW : W_L_law_1557 E k y3 m γ t Q) : hd_L_law_1557 E k y3 m γ t Q := by
  unfold W_L_law_1557 at hW
  intro h S
  refine wp_g (n := 4) (pc' := 1561) (L' := [some (.ref 1002000), some (.ref 0), some (.ref 158), some (.int (iI y3))]) (st' := [.int (iI 1), .int (iI y3), .ref 1002000, .ref 0]) rfl ?_
  refine wp_add (a := y3) (b := 1) rfl ?_
  obtain ⟨p1, hW⟩ := hW
  refine wp_scr rfl p1 ?_
  have hr2 : rJ (scr E (((y3 + 1)).toNat)) := i32_rg _
  refine wp_cv (As := [.int (iI (scr E (((y3 + 1)).toNat)))]) (rest := []) rfl rfl (S.cell 0 (nc rfl)) (by decide) rfl rfl rfl (Nat.le_of_ble_eq_true rfl) (Nat.le_of_ble_eq_true rfl) (hW _ S) (fun r3 H3 q3 => ?_)
  obtain ⟨v3, m3, γ3, t3, rfl, hv3, S, hW⟩ := q3
  show wp _ _ _ _ _ [.int (iI v3)] _ _
  refine wp_g (n := 4) (pc' := 1570) (L' := [some (.ref 1002000), some (.ref 0), some (.ref 158), some (.int (iI y3))]) (st' := [.int (iI 1), .int (iI y3), .ref 1002000, .ref 158, .int (iI v3)]) rfl ?_
  refine wp_add (a := y3) (b := 1) rfl ?_
  refine wp_scr rfl p1 ?_
  have hr4 : rJ (scr E (((y3 + 1)).toNat)) := i32_rg _
  refine wp_cv (As := [.int (iI (scr E (((y3 + 1)).toNat)))]) (rest := [.int (iI v3)]) rfl rfl (S.cell 158 (nc rfl)) (by decide) rfl rfl rfl (Nat.le_of_ble_eq_true rfl) (Nat.le_of_ble_eq_true rfl) (hW _ S) (fun r5 H5 q5 => ?_)
  obtain ⟨v5, m5, γ5, t5, rfl, hv5, S, hW⟩ := q5
  show wp _ _ _ _ _ [.int (iI v5), .int (iI v3)] _ _
  refine wp_icmpI (a := v3) (b := v5) rfl rfl hv3.1 hv3.2 hv5.1 hv5.2 (fun c6 => ?_) (fun c6 => ?_)
  · have dc6 := c6
    have hW := hW.1 dc6
    exact hW _ S
  · have dc6 := c6
    have hW := hW.2 dc6
    refine wp_g (n := 1) (pc' := 1579) (L' := [some (.ref 1002000), some (.ref 0), some (.ref 158), some (.int (iI y3))]) (st' := [.int (iI 0)]) rfl ?_
    exact wp_zret rfl rfl (by decide) ⟨_, _, _, _, rfl, (by decide), S, hW⟩
set_option maxRecDepth 100000 in
theorem vc_L_law_1580 {E : am_E} {k : Nat} {y3 : Int} {m : MM} {γ : GM} {t : am_H} {Q : Int → MM → GM → am_H → Prop} (hy3 : rJ y3) (hW : W_L_law_1580 E k y3 m γ t Q) : hd_L_law_1580 E k y3 m γ t Q := by
  unfold W_L_law_1580 at hW
  intro h S
  refine wp_g (n := 4) (pc' := 1584) (L' := [some (.ref 1002000), some (.ref 0), some (.ref 158), some (.int (iI y3))]) (st' := [.int (iI 1), .int (iI y3), .ref 1002000, .ref 0]) rfl ?_
  refine wp_add (a := y3) (b := 1) rfl ?_
  obtain ⟨p1, hW⟩ := hW
  refine wp_scr rfl p1 ?_
  have hr2 : rJ (scr E (((y3 + 1)).toNat)) := i32_rg _
  refine wp_cv (As := [.int (iI (scr E (((y3 + 1)).toNat)))]) (rest := []) rfl rfl (S.cell 0 (nc rfl)) (by decide) rfl rfl rfl (Nat.le_of_ble_eq_true rfl) (Nat.le_of_ble_eq_true rfl) (hW _ S) (fun r3 H3 q3 => ?_)
  obtain ⟨v3, m3, γ3, t3, rfl, hv3, S, hW⟩ := q3
  show wp _ _ _ _ _ [.int (iI v3)] _ _
  refine wp_g (n := 4) (pc' := 1593) (L' := [some (.ref 1002000), some (.ref 0), some (.ref 158), some (.int (iI y3))]) (st' := [.int (iI 1), .int (iI y3), .ref 1002000, .ref 158, .int (iI v3)]) rfl ?_
  refine wp_add (a := y3) (b := 1) rfl ?_
  refine wp_scr rfl p1 ?_
  have hr4 : rJ (scr E (((y3 + 1)).toNat)) := i32_rg _
  refine wp_cv (As := [.int (iI (scr E (((y3 + 1)).toNat)))]) (rest := [.int (iI v3)]) rfl rfl (S.cell 158 (nc rfl)) (by decide) rfl rfl rfl (Nat.le_of_ble_eq_true rfl) (Nat.le_of_ble_eq_true rfl) (hW _ S) (fun r5 H5 q5 => ?_)
  obtain ⟨v5, m5, γ5, t5, rfl, hv5, S, hW⟩ := q5
  show wp _ _ _ _ _ [.int (iI v5), .int (iI v3)] _ _
  refine wp_icmpI (a := v3) (b := v5) rfl rfl hv3.1 hv3.2 hv5.1 hv5.2 (fun c6 => ?_) (fun c6 => ?_)
  · have dc6 := c6
    have hW := hW.1 dc6
    exact hW _ S
  · have dc6 := c6
    have hW := hW.2 dc6
    refine wp_g (n := 1) (pc' := 1602) (L' := [some (.ref 1002000), some (.ref 0), some (.ref 158), some (.int (iI y3))]) (st' := [.int (iI 0)]) rfl ?_
    exact wp_zret rfl rfl (by decide) ⟨_, _, _, _, rfl, (by decide), S, hW⟩
set_option maxRecDepth 100000 in
theorem vc_L_law_1603 {E : am_E} {k : Nat} {y3 : Int} {m : MM} {γ : GM} {t : am_H} {Q : Int → MM → GM → am_H → Prop} (hy3 : rJ y3) (hW : W_L_law_1603 E k y3 m γ t Q) : hd_L_law_1603 E k y3 m γ t Q := by
  unfold W_L_law_1603 at hW
  intro h S
  refine wp_g (n := 4) (pc' := 1607) (L' := [some (.ref 1002000), some (.ref 0), some (.ref 158), some (.int (iI y3))]) (st' := [.int (iI 1), .int (iI y3), .ref 1002000, .ref 0]) rfl ?_
  refine wp_add (a := y3) (b := 1) rfl ?_
  obtain ⟨p1, hW⟩ := hW
  refine wp_scr rfl p1 ?_
  have hr2 : rJ (scr E (((y3 + 1)).toNat)) := i32_rg _
  refine wp_cv (As := [.int (iI (scr E (((y3 + 1)).toNat)))]) (rest := []) rfl rfl (S.cell 0 (nc rfl)) (by decide) rfl rfl rfl (Nat.le_of_ble_eq_true rfl) (Nat.le_of_ble_eq_true rfl) (hW _ S) (fun r3 H3 q3 => ?_)
  obtain ⟨v3, m3, γ3, t3, rfl, hv3, S, hW⟩ := q3
  show wp _ _ _ _ _ [.int (iI v3)] _ _
  refine wp_g (n := 4) (pc' := 1616) (L' := [some (.ref 1002000), some (.ref 0), some (.ref 158), some (.int (iI y3))]) (st' := [.int (iI 1), .int (iI y3), .ref 1002000, .ref 158, .int (iI v3)]) rfl ?_
  refine wp_add (a := y3) (b := 1) rfl ?_
  refine wp_scr rfl p1 ?_
  have hr4 : rJ (scr E (((y3 + 1)).toNat)) := i32_rg _
  refine wp_cv (As := [.int (iI (scr E (((y3 + 1)).toNat)))]) (rest := [.int (iI v3)]) rfl rfl (S.cell 158 (nc rfl)) (by decide) rfl rfl rfl (Nat.le_of_ble_eq_true rfl) (Nat.le_of_ble_eq_true rfl) (hW _ S) (fun r5 H5 q5 => ?_)
  obtain ⟨v5, m5, γ5, t5, rfl, hv5, S, hW⟩ := q5
  show wp _ _ _ _ _ [.int (iI v5), .int (iI v3)] _ _
  refine wp_icmpI (a := v3) (b := v5) rfl rfl hv3.1 hv3.2 hv5.1 hv5.2 (fun c6 => ?_) (fun c6 => ?_)
  · have dc6 := c6
    have hW := hW.1 dc6
    exact hW _ S
  · have dc6 := c6
    have hW := hW.2 dc6
    refine wp_g (n := 1) (pc' := 1625) (L' := [some (.ref 1002000), some (.ref 0), some (.ref 158), some (.int (iI y3))]) (st' := [.int (iI 0)]) rfl ?_
    exact wp_zret rfl rfl (by decide) ⟨_, _, _, _, rfl, (by decide), S, hW⟩
set_option maxRecDepth 100000 in
theorem vc_L_law_1626 {E : am_E} {k : Nat} {y3 : Int} {m : MM} {γ : GM} {t : am_H} {Q : Int → MM → GM → am_H → Prop} (hy3 : rJ y3) (hW : W_L_law_1626 E k y3 m γ t Q) : hd_L_law_1626 E k y3 m γ t Q := by
  unfold W_L_law_1626 at hW
  intro h S
  refine wp_g (n := 4) (pc' := 1630) (L' := [some (.ref 1002000), some (.ref 0), some (.ref 158), some (.int (iI y3))]) (st' := [.int (iI 1), .int (iI y3), .ref 1002000, .ref 0]) rfl ?_
  refine wp_add (a := y3) (b := 1) rfl ?_
  obtain ⟨p1, hW⟩ := hW
  refine wp_scr rfl p1 ?_
  have hr2 : rJ (scr E (((y3 + 1)).toNat)) := i32_rg _
  refine wp_g (n := 3) (pc' := 1635) (L' := [some (.ref 1002000), some (.ref 0), some (.ref 158), some (.int (iI y3))]) (st' := [.int (iI 2), .int (iI y3), .ref 1002000, .int (iI (scr E (((y3 + 1)).toNat))), .ref 0]) rfl ?_
  refine wp_add (a := y3) (b := 2) rfl ?_
  obtain ⟨p3, hW⟩ := hW
  refine wp_scr rfl p3 ?_
  have hr4 : rJ (scr E (((y3 + 2)).toNat)) := i32_rg _
  refine wp_g (n := 3) (pc' := 1640) (L' := [some (.ref 1002000), some (.ref 0), some (.ref 158), some (.int (iI y3))]) (st' := [.int (iI 3), .int (iI y3), .ref 1002000, .int (iI (scr E (((y3 + 2)).toNat))), .int (iI (scr E (((y3 + 1)).toNat))), .ref 0]) rfl ?_
  refine wp_add (a := y3) (b := 3) rfl ?_
  obtain ⟨p5, hW⟩ := hW
  refine wp_scr rfl p5 ?_
  have hr6 : rJ (scr E (((y3 + 3)).toNat)) := i32_rg _
  refine wp_g (n := 3) (pc' := 1645) (L' := [some (.ref 1002000), some (.ref 0), some (.ref 158), some (.int (iI y3))]) (st' := [.int (iI 4), .int (iI y3), .ref 1002000, .int (iI (scr E (((y3 + 3)).toNat))), .int (iI (scr E (((y3 + 2)).toNat))), .int (iI (scr E (((y3 + 1)).toNat))), .ref 0]) rfl ?_
  refine wp_add (a := y3) (b := 4) rfl ?_
  obtain ⟨p7, hW⟩ := hW
  refine wp_scr rfl p7 ?_
  have hr8 : rJ (scr E (((y3 + 4)).toNat)) := i32_rg _
  refine wp_cv (As := [.int (iI (scr E (((y3 + 1)).toNat))), .int (iI (scr E (((y3 + 2)).toNat))), .int (iI (scr E (((y3 + 3)).toNat))), .int (iI (scr E (((y3 + 4)).toNat)))]) (rest := []) rfl rfl (S.cell 0 (nc rfl)) (by decide) rfl rfl rfl (Nat.le_of_ble_eq_true rfl) (Nat.le_of_ble_eq_true rfl) (hW _ S) (fun r9 H9 q9 => ?_)
  obtain ⟨v9, m9, γ9, t9, rfl, hv9, S, hW⟩ := q9
  show wp _ _ _ _ _ [.int (iI v9)] _ _
  refine wp_g (n := 4) (pc' := 1654) (L' := [some (.ref 1002000), some (.ref 0), some (.ref 158), some (.int (iI y3))]) (st' := [.int (iI 1), .int (iI y3), .ref 1002000, .ref 158, .int (iI v9)]) rfl ?_
  refine wp_add (a := y3) (b := 1) rfl ?_
  refine wp_scr rfl p1 ?_
  have hr10 : rJ (scr E (((y3 + 1)).toNat)) := i32_rg _
  refine wp_g (n := 3) (pc' := 1659) (L' := [some (.ref 1002000), some (.ref 0), some (.ref 158), some (.int (iI y3))]) (st' := [.int (iI 2), .int (iI y3), .ref 1002000, .int (iI (scr E (((y3 + 1)).toNat))), .ref 158, .int (iI v9)]) rfl ?_
  refine wp_add (a := y3) (b := 2) rfl ?_
  refine wp_scr rfl p3 ?_
  have hr11 : rJ (scr E (((y3 + 2)).toNat)) := i32_rg _
  refine wp_g (n := 3) (pc' := 1664) (L' := [some (.ref 1002000), some (.ref 0), some (.ref 158), some (.int (iI y3))]) (st' := [.int (iI 3), .int (iI y3), .ref 1002000, .int (iI (scr E (((y3 + 2)).toNat))), .int (iI (scr E (((y3 + 1)).toNat))), .ref 158, .int (iI v9)]) rfl ?_
  refine wp_add (a := y3) (b := 3) rfl ?_
  refine wp_scr rfl p5 ?_
  have hr12 : rJ (scr E (((y3 + 3)).toNat)) := i32_rg _
  refine wp_g (n := 3) (pc' := 1669) (L' := [some (.ref 1002000), some (.ref 0), some (.ref 158), some (.int (iI y3))]) (st' := [.int (iI 4), .int (iI y3), .ref 1002000, .int (iI (scr E (((y3 + 3)).toNat))), .int (iI (scr E (((y3 + 2)).toNat))), .int (iI (scr E (((y3 + 1)).toNat))), .ref 158, .int (iI v9)]) rfl ?_
  refine wp_add (a := y3) (b := 4) rfl ?_
  refine wp_scr rfl p7 ?_
  have hr13 : rJ (scr E (((y3 + 4)).toNat)) := i32_rg _
  refine wp_cv (As := [.int (iI (scr E (((y3 + 1)).toNat))), .int (iI (scr E (((y3 + 2)).toNat))), .int (iI (scr E (((y3 + 3)).toNat))), .int (iI (scr E (((y3 + 4)).toNat)))]) (rest := [.int (iI v9)]) rfl rfl (S.cell 158 (nc rfl)) (by decide) rfl rfl rfl (Nat.le_of_ble_eq_true rfl) (Nat.le_of_ble_eq_true rfl) (hW _ S) (fun r14 H14 q14 => ?_)
  obtain ⟨v14, m14, γ14, t14, rfl, hv14, S, hW⟩ := q14
  show wp _ _ _ _ _ [.int (iI v14), .int (iI v9)] _ _
  refine wp_icmpI (a := v9) (b := v14) rfl rfl hv9.1 hv9.2 hv14.1 hv14.2 (fun c15 => ?_) (fun c15 => ?_)
  · have dc15 := c15
    have hW := hW.1 dc15
    exact hW _ S
  · have dc15 := c15
    have hW := hW.2 dc15
    refine wp_g (n := 1) (pc' := 1678) (L' := [some (.ref 1002000), some (.ref 0), some (.ref 158), some (.int (iI y3))]) (st' := [.int (iI 0)]) rfl ?_
    exact wp_zret rfl rfl (by decide) ⟨_, _, _, _, rfl, (by decide), S, hW⟩
set_option maxRecDepth 100000 in
theorem vc_L_law_1679 {E : am_E} {k : Nat} {y3 : Int} {m : MM} {γ : GM} {t : am_H} {Q : Int → MM → GM → am_H → Prop} (hy3 : rJ y3) (hW : W_L_law_1679 E k y3 m γ t Q) : hd_L_law_1679 E k y3 m γ t Q := by
  unfold W_L_law_1679 at hW
  intro h S
  refine wp_g (n := 4) (pc' := 1683) (L' := [some (.ref 1002000), some (.ref 0), some (.ref 158), some (.int (iI y3))]) (st' := [.int (iI 1), .int (iI y3), .ref 1002000, .ref 0]) rfl ?_
  refine wp_add (a := y3) (b := 1) rfl ?_
  obtain ⟨p1, hW⟩ := hW
  refine wp_scr rfl p1 ?_
  have hr2 : rJ (scr E (((y3 + 1)).toNat)) := i32_rg _
  refine wp_g (n := 3) (pc' := 1688) (L' := [some (.ref 1002000), some (.ref 0), some (.ref 158), some (.int (iI y3))]) (st' := [.int (iI 2), .int (iI y3), .ref 1002000, .int (iI (scr E (((y3 + 1)).toNat))), .ref 0]) rfl ?_
  refine wp_add (a := y3) (b := 2) rfl ?_
  obtain ⟨p3, hW⟩ := hW
  refine wp_scr rfl p3 ?_
  have hr4 : rJ (scr E (((y3 + 2)).toNat)) := i32_rg _
  refine wp_cv (As := [.int (iI (scr E (((y3 + 1)).toNat))), .int (iI (scr E (((y3 + 2)).toNat)))]) (rest := []) rfl rfl (S.cell 0 (nc rfl)) (by decide) rfl rfl rfl (Nat.le_of_ble_eq_true rfl) (Nat.le_of_ble_eq_true rfl) (hW _ S) (fun r5 H5 q5 => ?_)
  obtain ⟨v5, m5, γ5, t5, rfl, hv5, S, hW⟩ := q5
  show wp _ _ _ _ _ [.int (iI v5)] _ _
  refine wp_g (n := 4) (pc' := 1697) (L' := [some (.ref 1002000), some (.ref 0), some (.ref 158), some (.int (iI y3))]) (st' := [.int (iI 1), .int (iI y3), .ref 1002000, .ref 158, .int (iI v5)]) rfl ?_
  refine wp_add (a := y3) (b := 1) rfl ?_
  refine wp_scr rfl p1 ?_
  have hr6 : rJ (scr E (((y3 + 1)).toNat)) := i32_rg _
  refine wp_g (n := 3) (pc' := 1702) (L' := [some (.ref 1002000), some (.ref 0), some (.ref 158), some (.int (iI y3))]) (st' := [.int (iI 2), .int (iI y3), .ref 1002000, .int (iI (scr E (((y3 + 1)).toNat))), .ref 158, .int (iI v5)]) rfl ?_
  refine wp_add (a := y3) (b := 2) rfl ?_
  refine wp_scr rfl p3 ?_
  have hr7 : rJ (scr E (((y3 + 2)).toNat)) := i32_rg _
  refine wp_cv (As := [.int (iI (scr E (((y3 + 1)).toNat))), .int (iI (scr E (((y3 + 2)).toNat)))]) (rest := [.int (iI v5)]) rfl rfl (S.cell 158 (nc rfl)) (by decide) rfl rfl rfl (Nat.le_of_ble_eq_true rfl) (Nat.le_of_ble_eq_true rfl) (hW _ S) (fun r8 H8 q8 => ?_)
  obtain ⟨v8, m8, γ8, t8, rfl, hv8, S, hW⟩ := q8
  show wp _ _ _ _ _ [.int (iI v8), .int (iI v5)] _ _
  refine wp_icmpI (a := v5) (b := v8) rfl rfl hv5.1 hv5.2 hv8.1 hv8.2 (fun c9 => ?_) (fun c9 => ?_)
  · have dc9 := c9
    have hW := hW.1 dc9
    exact hW _ S
  · have dc9 := c9
    have hW := hW.2 dc9
    refine wp_g (n := 1) (pc' := 1711) (L' := [some (.ref 1002000), some (.ref 0), some (.ref 158), some (.int (iI y3))]) (st' := [.int (iI 0)]) rfl ?_
    exact wp_zret rfl rfl (by decide) ⟨_, _, _, _, rfl, (by decide), S, hW⟩
set_option maxRecDepth 100000 in
theorem vc_L_law_1712 {E : am_E} {k : Nat} {y3 : Int} {m : MM} {γ : GM} {t : am_H} {Q : Int → MM → GM → am_H → Prop} (hy3 : rJ y3) (hW : W_L_law_1712 E k y3 m γ t Q) : hd_L_law_1712 E k y3 m γ t Q := by
  unfold W_L_law_1712 at hW
  intro h S
  refine wp_g (n := 4) (pc' := 1716) (L' := [some (.ref 1002000), some (.ref 0), some (.ref 158), some (.int (iI y3))]) (st' := [.int (iI 1), .int (iI y3), .ref 1002000, .ref 0]) rfl ?_
  refine wp_add (a := y3) (b := 1) rfl ?_
  obtain ⟨p1, hW⟩ := hW
  refine wp_scr rfl p1 ?_
  have hr2 : rJ (scr E (((y3 + 1)).toNat)) := i32_rg _
  refine wp_g (n := 3) (pc' := 1721) (L' := [some (.ref 1002000), some (.ref 0), some (.ref 158), some (.int (iI y3))]) (st' := [.int (iI 2), .int (iI y3), .ref 1002000, .int (iI (scr E (((y3 + 1)).toNat))), .ref 0]) rfl ?_
  refine wp_add (a := y3) (b := 2) rfl ?_
  obtain ⟨p3, hW⟩ := hW
  refine wp_scr rfl p3 ?_
  have hr4 : rJ (scr E (((y3 + 2)).toNat)) := i32_rg _
  refine wp_cv (As := [.int (iI (scr E (((y3 + 1)).toNat))), .int (iI (scr E (((y3 + 2)).toNat)))]) (rest := []) rfl rfl (S.cell 0 (nc rfl)) (by decide) rfl rfl rfl (Nat.le_of_ble_eq_true rfl) (Nat.le_of_ble_eq_true rfl) (hW _ S) (fun r5 H5 q5 => ?_)
  obtain ⟨v5, m5, γ5, t5, rfl, hv5, S, hW⟩ := q5
  show wp _ _ _ _ _ [.int (iI v5)] _ _
  refine wp_g (n := 4) (pc' := 1730) (L' := [some (.ref 1002000), some (.ref 0), some (.ref 158), some (.int (iI y3))]) (st' := [.int (iI 1), .int (iI y3), .ref 1002000, .ref 158, .int (iI v5)]) rfl ?_
  refine wp_add (a := y3) (b := 1) rfl ?_
  refine wp_scr rfl p1 ?_
  have hr6 : rJ (scr E (((y3 + 1)).toNat)) := i32_rg _
  refine wp_g (n := 3) (pc' := 1735) (L' := [some (.ref 1002000), some (.ref 0), some (.ref 158), some (.int (iI y3))]) (st' := [.int (iI 2), .int (iI y3), .ref 1002000, .int (iI (scr E (((y3 + 1)).toNat))), .ref 158, .int (iI v5)]) rfl ?_
  refine wp_add (a := y3) (b := 2) rfl ?_
  refine wp_scr rfl p3 ?_
  have hr7 : rJ (scr E (((y3 + 2)).toNat)) := i32_rg _
  refine wp_cv (As := [.int (iI (scr E (((y3 + 1)).toNat))), .int (iI (scr E (((y3 + 2)).toNat)))]) (rest := [.int (iI v5)]) rfl rfl (S.cell 158 (nc rfl)) (by decide) rfl rfl rfl (Nat.le_of_ble_eq_true rfl) (Nat.le_of_ble_eq_true rfl) (hW _ S) (fun r8 H8 q8 => ?_)
  obtain ⟨v8, m8, γ8, t8, rfl, hv8, S, hW⟩ := q8
  show wp _ _ _ _ _ [.int (iI v8), .int (iI v5)] _ _
  refine wp_icmpI (a := v5) (b := v8) rfl rfl hv5.1 hv5.2 hv8.1 hv8.2 (fun c9 => ?_) (fun c9 => ?_)
  · have dc9 := c9
    have hW := hW.1 dc9
    exact hW _ S
  · have dc9 := c9
    have hW := hW.2 dc9
    refine wp_g (n := 1) (pc' := 1744) (L' := [some (.ref 1002000), some (.ref 0), some (.ref 158), some (.int (iI y3))]) (st' := [.int (iI 0)]) rfl ?_
    exact wp_zret rfl rfl (by decide) ⟨_, _, _, _, rfl, (by decide), S, hW⟩
set_option maxRecDepth 100000 in
theorem vc_L_law_1745 {E : am_E} {k : Nat} {y3 : Int} {m : MM} {γ : GM} {t : am_H} {Q : Int → MM → GM → am_H → Prop} (hy3 : rJ y3) (hW : W_L_law_1745 E k y3 m γ t Q) : hd_L_law_1745 E k y3 m γ t Q := by
  unfold W_L_law_1745 at hW
  intro h S
  refine wp_g (n := 4) (pc' := 1749) (L' := [some (.ref 1002000), some (.ref 0), some (.ref 158), some (.int (iI y3))]) (st' := [.int (iI 1), .int (iI y3), .ref 1002000, .ref 0]) rfl ?_
  refine wp_add (a := y3) (b := 1) rfl ?_
  obtain ⟨p1, hW⟩ := hW
  refine wp_scr rfl p1 ?_
  have hr2 : rJ (scr E (((y3 + 1)).toNat)) := i32_rg _
  refine wp_g (n := 3) (pc' := 1754) (L' := [some (.ref 1002000), some (.ref 0), some (.ref 158), some (.int (iI y3))]) (st' := [.int (iI 2), .int (iI y3), .ref 1002000, .int (iI (scr E (((y3 + 1)).toNat))), .ref 0]) rfl ?_
  refine wp_add (a := y3) (b := 2) rfl ?_
  obtain ⟨p3, hW⟩ := hW
  refine wp_scr rfl p3 ?_
  have hr4 : rJ (scr E (((y3 + 2)).toNat)) := i32_rg _
  refine wp_cv (As := [.int (iI (scr E (((y3 + 1)).toNat))), .int (iI (scr E (((y3 + 2)).toNat)))]) (rest := []) rfl rfl (S.cell 0 (nc rfl)) (by decide) rfl rfl rfl (Nat.le_of_ble_eq_true rfl) (Nat.le_of_ble_eq_true rfl) (hW _ S) (fun r5 H5 q5 => ?_)
  obtain ⟨v5, m5, γ5, t5, rfl, hv5, S, hW⟩ := q5
  show wp _ _ _ _ _ [.int (iI v5)] _ _
  refine wp_g (n := 4) (pc' := 1763) (L' := [some (.ref 1002000), some (.ref 0), some (.ref 158), some (.int (iI y3))]) (st' := [.int (iI 1), .int (iI y3), .ref 1002000, .ref 158, .int (iI v5)]) rfl ?_
  refine wp_add (a := y3) (b := 1) rfl ?_
  refine wp_scr rfl p1 ?_
  have hr6 : rJ (scr E (((y3 + 1)).toNat)) := i32_rg _
  refine wp_g (n := 3) (pc' := 1768) (L' := [some (.ref 1002000), some (.ref 0), some (.ref 158), some (.int (iI y3))]) (st' := [.int (iI 2), .int (iI y3), .ref 1002000, .int (iI (scr E (((y3 + 1)).toNat))), .ref 158, .int (iI v5)]) rfl ?_
  refine wp_add (a := y3) (b := 2) rfl ?_
  refine wp_scr rfl p3 ?_
  have hr7 : rJ (scr E (((y3 + 2)).toNat)) := i32_rg _
  refine wp_cv (As := [.int (iI (scr E (((y3 + 1)).toNat))), .int (iI (scr E (((y3 + 2)).toNat)))]) (rest := [.int (iI v5)]) rfl rfl (S.cell 158 (nc rfl)) (by decide) rfl rfl rfl (Nat.le_of_ble_eq_true rfl) (Nat.le_of_ble_eq_true rfl) (hW _ S) (fun r8 H8 q8 => ?_)
  obtain ⟨v8, m8, γ8, t8, rfl, hv8, S, hW⟩ := q8
  show wp _ _ _ _ _ [.int (iI v8), .int (iI v5)] _ _
  refine wp_icmpI (a := v5) (b := v8) rfl rfl hv5.1 hv5.2 hv8.1 hv8.2 (fun c9 => ?_) (fun c9 => ?_)
  · have dc9 := c9
    have hW := hW.1 dc9
    exact hW _ S
  · have dc9 := c9
    have hW := hW.2 dc9
    refine wp_g (n := 1) (pc' := 1777) (L' := [some (.ref 1002000), some (.ref 0), some (.ref 158), some (.int (iI y3))]) (st' := [.int (iI 0)]) rfl ?_
    exact wp_zret rfl rfl (by decide) ⟨_, _, _, _, rfl, (by decide), S, hW⟩
set_option maxRecDepth 100000 in
theorem vc_L_law_1778 {E : am_E} {k : Nat} {y3 : Int} {m : MM} {γ : GM} {t : am_H} {Q : Int → MM → GM → am_H → Prop} (hy3 : rJ y3) (hW : W_L_law_1778 E k y3 m γ t Q) : hd_L_law_1778 E k y3 m γ t Q := by
  unfold W_L_law_1778 at hW
  intro h S
  refine wp_g (n := 4) (pc' := 1782) (L' := [some (.ref 1002000), some (.ref 0), some (.ref 158), some (.int (iI y3))]) (st' := [.int (iI 1), .int (iI y3), .ref 1002000, .ref 0]) rfl ?_
  refine wp_add (a := y3) (b := 1) rfl ?_
  obtain ⟨p1, hW⟩ := hW
  refine wp_scr rfl p1 ?_
  have hr2 : rJ (scr E (((y3 + 1)).toNat)) := i32_rg _
  refine wp_cv (As := [.int (iI (scr E (((y3 + 1)).toNat)))]) (rest := []) rfl rfl (S.cell 0 (nc rfl)) (by decide) rfl rfl rfl (Nat.le_of_ble_eq_true rfl) (Nat.le_of_ble_eq_true rfl) (hW _ S) (fun r3 H3 q3 => ?_)
  obtain ⟨v3, m3, γ3, t3, rfl, hv3, S, hW⟩ := q3
  show wp _ _ _ _ _ [.int (iI v3)] _ _
  refine wp_g (n := 4) (pc' := 1791) (L' := [some (.ref 1002000), some (.ref 0), some (.ref 158), some (.int (iI y3))]) (st' := [.int (iI 1), .int (iI y3), .ref 1002000, .ref 158, .int (iI v3)]) rfl ?_
  refine wp_add (a := y3) (b := 1) rfl ?_
  refine wp_scr rfl p1 ?_
  have hr4 : rJ (scr E (((y3 + 1)).toNat)) := i32_rg _
  refine wp_cv (As := [.int (iI (scr E (((y3 + 1)).toNat)))]) (rest := [.int (iI v3)]) rfl rfl (S.cell 158 (nc rfl)) (by decide) rfl rfl rfl (Nat.le_of_ble_eq_true rfl) (Nat.le_of_ble_eq_true rfl) (hW _ S) (fun r5 H5 q5 => ?_)
  obtain ⟨v5, m5, γ5, t5, rfl, hv5, S, hW⟩ := q5
  show wp _ _ _ _ _ [.int (iI v5), .int (iI v3)] _ _
  refine wp_icmpI (a := v3) (b := v5) rfl rfl hv3.1 hv3.2 hv5.1 hv5.2 (fun c6 => ?_) (fun c6 => ?_)
  · have dc6 := c6
    have hW := hW.1 dc6
    exact hW _ S
  · have dc6 := c6
    have hW := hW.2 dc6
    refine wp_g (n := 1) (pc' := 1800) (L' := [some (.ref 1002000), some (.ref 0), some (.ref 158), some (.int (iI y3))]) (st' := [.int (iI 0)]) rfl ?_
    exact wp_zret rfl rfl (by decide) ⟨_, _, _, _, rfl, (by decide), S, hW⟩
set_option maxRecDepth 100000 in
theorem vc_L_law_1801 {E : am_E} {k : Nat} {y3 : Int} {m : MM} {γ : GM} {t : am_H} {Q : Int → MM → GM → am_H → Prop} (hy3 : rJ y3) (hW : W_L_law_1801 E k y3 m γ t Q) : hd_L_law_1801 E k y3 m γ t Q := by
  unfold W_L_law_1801 at hW
  intro h S
  refine wp_g (n := 1) (pc' := 1802) (L' := [some (.ref 1002000), some (.ref 0), some (.ref 158), some (.int (iI y3))]) (st' := [.ref 0]) rfl ?_
  refine wp_cv (As := []) (rest := []) rfl rfl (S.cell 0 (nc rfl)) (by decide) rfl rfl rfl (Nat.le_of_ble_eq_true rfl) (Nat.le_of_ble_eq_true rfl) (hW _ S) (fun r1 H1 q1 => ?_)
  obtain ⟨v1, m1, γ1, t1, rfl, hv1, S, hW⟩ := q1
  show wp _ _ _ _ _ [.int (iI v1)] _ _
  refine wp_g (n := 1) (pc' := 1806) (L' := [some (.ref 1002000), some (.ref 0), some (.ref 158), some (.int (iI y3))]) (st' := [.ref 158, .int (iI v1)]) rfl ?_
  refine wp_cv (As := []) (rest := [.int (iI v1)]) rfl rfl (S.cell 158 (nc rfl)) (by decide) rfl rfl rfl (Nat.le_of_ble_eq_true rfl) (Nat.le_of_ble_eq_true rfl) (hW _ S) (fun r2 H2 q2 => ?_)
  obtain ⟨v2, m2, γ2, t2, rfl, hv2, S, hW⟩ := q2
  show wp _ _ _ _ _ [.int (iI v2), .int (iI v1)] _ _
  refine wp_icmpI (a := v1) (b := v2) rfl rfl hv1.1 hv1.2 hv2.1 hv2.2 (fun c3 => ?_) (fun c3 => ?_)
  · have dc3 := c3
    have hW := hW.1 dc3
    exact hW _ S
  · have dc3 := c3
    have hW := hW.2 dc3
    refine wp_g (n := 1) (pc' := 1813) (L' := [some (.ref 1002000), some (.ref 0), some (.ref 158), some (.int (iI y3))]) (st' := [.int (iI 0)]) rfl ?_
    exact wp_zret rfl rfl (by decide) ⟨_, _, _, _, rfl, (by decide), S, hW⟩
set_option maxRecDepth 100000 in
theorem vc_L_law_1814 {E : am_E} {k : Nat} {y3 : Int} {m : MM} {γ : GM} {t : am_H} {Q : Int → MM → GM → am_H → Prop} (hy3 : rJ y3) (hW : W_L_law_1814 E k y3 m γ t Q) : hd_L_law_1814 E k y3 m γ t Q := by
  unfold W_L_law_1814 at hW
  intro h S
  refine wp_g (n := 4) (pc' := 1818) (L' := [some (.ref 1002000), some (.ref 0), some (.ref 158), some (.int (iI y3))]) (st' := [.int (iI 1), .int (iI y3), .ref 1002000, .ref 0]) rfl ?_
  refine wp_add (a := y3) (b := 1) rfl ?_
  obtain ⟨p1, hW⟩ := hW
  refine wp_scr rfl p1 ?_
  have hr2 : rJ (scr E (((y3 + 1)).toNat)) := i32_rg _
  refine wp_g (n := 3) (pc' := 1823) (L' := [some (.ref 1002000), some (.ref 0), some (.ref 158), some (.int (iI y3))]) (st' := [.int (iI 2), .int (iI y3), .ref 1002000, .int (iI (scr E (((y3 + 1)).toNat))), .ref 0]) rfl ?_
  refine wp_add (a := y3) (b := 2) rfl ?_
  obtain ⟨p3, hW⟩ := hW
  refine wp_scr rfl p3 ?_
  have hr4 : rJ (scr E (((y3 + 2)).toNat)) := i32_rg _
  refine wp_cv (As := [.int (iI (scr E (((y3 + 1)).toNat))), .int (iI (scr E (((y3 + 2)).toNat)))]) (rest := []) rfl rfl (S.cell 0 (nc rfl)) (by decide) rfl rfl rfl (Nat.le_of_ble_eq_true rfl) (Nat.le_of_ble_eq_true rfl) (hW _ S) (fun r5 H5 q5 => ?_)
  obtain ⟨v5, m5, γ5, t5, rfl, hv5, S, hW⟩ := q5
  show wp _ _ _ _ _ [.int (iI v5)] _ _
  refine wp_g (n := 4) (pc' := 1832) (L' := [some (.ref 1002000), some (.ref 0), some (.ref 158), some (.int (iI y3))]) (st' := [.int (iI 1), .int (iI y3), .ref 1002000, .ref 158, .int (iI v5)]) rfl ?_
  refine wp_add (a := y3) (b := 1) rfl ?_
  refine wp_scr rfl p1 ?_
  have hr6 : rJ (scr E (((y3 + 1)).toNat)) := i32_rg _
  refine wp_g (n := 3) (pc' := 1837) (L' := [some (.ref 1002000), some (.ref 0), some (.ref 158), some (.int (iI y3))]) (st' := [.int (iI 2), .int (iI y3), .ref 1002000, .int (iI (scr E (((y3 + 1)).toNat))), .ref 158, .int (iI v5)]) rfl ?_
  refine wp_add (a := y3) (b := 2) rfl ?_
  refine wp_scr rfl p3 ?_
  have hr7 : rJ (scr E (((y3 + 2)).toNat)) := i32_rg _
  refine wp_cv (As := [.int (iI (scr E (((y3 + 1)).toNat))), .int (iI (scr E (((y3 + 2)).toNat)))]) (rest := [.int (iI v5)]) rfl rfl (S.cell 158 (nc rfl)) (by decide) rfl rfl rfl (Nat.le_of_ble_eq_true rfl) (Nat.le_of_ble_eq_true rfl) (hW _ S) (fun r8 H8 q8 => ?_)
  obtain ⟨v8, m8, γ8, t8, rfl, hv8, S, hW⟩ := q8
  show wp _ _ _ _ _ [.int (iI v8), .int (iI v5)] _ _
  refine wp_icmpI (a := v5) (b := v8) rfl rfl hv5.1 hv5.2 hv8.1 hv8.2 (fun c9 => ?_) (fun c9 => ?_)
  · have dc9 := c9
    have hW := hW.1 dc9
    exact hW _ S
  · have dc9 := c9
    have hW := hW.2 dc9
    refine wp_g (n := 1) (pc' := 1846) (L' := [some (.ref 1002000), some (.ref 0), some (.ref 158), some (.int (iI y3))]) (st' := [.int (iI 0)]) rfl ?_
    exact wp_zret rfl rfl (by decide) ⟨_, _, _, _, rfl, (by decide), S, hW⟩
set_option maxRecDepth 100000 in
theorem vc_L_law_1847 {E : am_E} {k : Nat} {y3 : Int} {m : MM} {γ : GM} {t : am_H} {Q : Int → MM → GM → am_H → Prop} (hy3 : rJ y3) (hW : W_L_law_1847 E k y3 m γ t Q) : hd_L_law_1847 E k y3 m γ t Q := by
  unfold W_L_law_1847 at hW
  intro h S
  refine wp_g (n := 4) (pc' := 1851) (L' := [some (.ref 1002000), some (.ref 0), some (.ref 158), some (.int (iI y3))]) (st' := [.int (iI 1), .int (iI y3), .ref 1002000, .ref 0]) rfl ?_
  refine wp_add (a := y3) (b := 1) rfl ?_
  obtain ⟨p1, hW⟩ := hW
  refine wp_scr rfl p1 ?_
  have hr2 : rJ (scr E (((y3 + 1)).toNat)) := i32_rg _
  refine wp_cv (As := [.int (iI (scr E (((y3 + 1)).toNat)))]) (rest := []) rfl rfl (S.cell 0 (nc rfl)) (by decide) rfl rfl rfl (Nat.le_of_ble_eq_true rfl) (Nat.le_of_ble_eq_true rfl) (hW _ S) (fun r3 H3 q3 => ?_)
  obtain ⟨v3, m3, γ3, t3, rfl, hv3, S, hW⟩ := q3
  show wp _ _ _ _ _ [.int (iI v3)] _ _
  refine wp_g (n := 4) (pc' := 1860) (L' := [some (.ref 1002000), some (.ref 0), some (.ref 158), some (.int (iI y3))]) (st' := [.int (iI 1), .int (iI y3), .ref 1002000, .ref 158, .int (iI v3)]) rfl ?_
  refine wp_add (a := y3) (b := 1) rfl ?_
  refine wp_scr rfl p1 ?_
  have hr4 : rJ (scr E (((y3 + 1)).toNat)) := i32_rg _
  refine wp_cv (As := [.int (iI (scr E (((y3 + 1)).toNat)))]) (rest := [.int (iI v3)]) rfl rfl (S.cell 158 (nc rfl)) (by decide) rfl rfl rfl (Nat.le_of_ble_eq_true rfl) (Nat.le_of_ble_eq_true rfl) (hW _ S) (fun r5 H5 q5 => ?_)
  obtain ⟨v5, m5, γ5, t5, rfl, hv5, S, hW⟩ := q5
  show wp _ _ _ _ _ [.int (iI v5), .int (iI v3)] _ _
  refine wp_icmpI (a := v3) (b := v5) rfl rfl hv3.1 hv3.2 hv5.1 hv5.2 (fun c6 => ?_) (fun c6 => ?_)
  · have dc6 := c6
    have hW := hW.1 dc6
    exact hW _ S
  · have dc6 := c6
    have hW := hW.2 dc6
    refine wp_g (n := 1) (pc' := 1869) (L' := [some (.ref 1002000), some (.ref 0), some (.ref 158), some (.int (iI y3))]) (st' := [.int (iI 0)]) rfl ?_
    exact wp_zret rfl rfl (by decide) ⟨_, _, _, _, rfl, (by decide), S, hW⟩
set_option maxRecDepth 100000 in
theorem vc_L_law_1870 {E : am_E} {k : Nat} {y3 : Int} {m : MM} {γ : GM} {t : am_H} {Q : Int → MM → GM → am_H → Prop} (hy3 : rJ y3) (hW : W_L_law_1870 E k y3 m γ t Q) : hd_L_law_1870 E k y3 m γ t Q := by
  unfold W_L_law_1870 at hW
  intro h S
  refine wp_iinc (L' := [some (.ref 1002000), some (.ref 0), some (.ref 158), some (.int (iI (y3 + 6)))]) (a := y3) rfl rfl rfl ?_
  refine wp_g (n := 1) (pc' := 18) (L' := [some (.ref 1002000), some (.ref 0), some (.ref 158), some (.int (iI (y3 + 6)))]) (st' := []) rfl ?_
  exact hW _ S
