section TST
variable {E : am_E} {k : Nat} {h : am_H}
/-- PegStrings.at -/
theorem m_at {a n : Nat} {F : Nat → Int} (hh : h[a]? = some (cI n F)) (ha : a < 1000000) (hn : n ≤ 100000) (i : Int) (i1 : -2147483648 ≤ i) (i2 : i < 2147483648) : wp E k 182 0 (am_entry [.ref a, .int (iI i)] 2) [] h (aI (if 0 ≤ i ∧ i < n then F i.toNat else -1) h) := by
  refine wp_g (n := 1) (pc' := 1) (L' := [some (.ref a), some (.int (iI i))]) (st' := [.int (iI i)]) rfl ?_
  refine wp_ifI rfl rfl i1 i2 (fun c => ?_) (fun c => ?_)
  · have c : i < 0 := c
    refine wp_g (n := 1) (pc' := 17) (L' := [some (.ref a), some (.int (iI i))]) (st' := [.int (iI (-1))]) rfl ?_
    refine wp_iret rfl rfl ⟨?_, rfl⟩
    rw [if_neg (by omega)]
  · have c : ¬ i < 0 := c
    refine wp_g (n := 2) (pc' := 6) (L' := [some (.ref a), some (.int (iI i))]) (st' := [.ref a, .int (iI i)]) rfl ?_
    refine wp_alen rfl hh ha ?_
    refine wp_icmpI rfl rfl i1 i2 (by omega) (by omega) (fun c2 => ?_) (fun c2 => ?_)
    · have c2 : (n : Int) ≤ i := c2
      refine wp_g (n := 1) (pc' := 17) (L' := [some (.ref a), some (.int (iI i))]) (st' := [.int (iI (-1))]) rfl ?_
      refine wp_iret rfl rfl ⟨?_, rfl⟩
      rw [if_neg (by omega)]
    · have c2 : ¬ (n : Int) ≤ i := c2
      refine wp_g (n := 2) (pc' := 12) (L' := [some (.ref a), some (.int (iI i))]) (st' := [.int (iI i), .ref a]) rfl ?_
      refine wp_iald rfl hh ha (by omega) (by omega) hn ?_
      refine wp_g (n := 1) (pc' := 17) (L' := [some (.ref a), some (.int (iI i))]) (st' := [.int (iI (F i.toNat))]) rfl ?_
      refine wp_iret rfl rfl ⟨?_, rfl⟩
      rw [if_pos (by omega)]
/-- Trace.strandAt -/
theorem m_strandAt {g a n : Nat} {F : Nat → Int} {fs : List Value} (hg : h[g]? = some (cO 7 fs)) (hgl : g < 1000000) (hf : fs[4]? = some (.ref a)) (hh : h[a]? = some (cI n F)) (ha : a < 1000000) (hn : n ≤ 100000) (i : Int) (i1 : -2147483648 ≤ i) (i2 : i < 2147483648) : wp E (k + 1) 101 0 (am_entry [.ref g, .int (iI i)] 2) [] h (aI (if 0 ≤ i ∧ i < n then F i.toNat else -1) h) := by
  refine wp_g (n := 1) (pc' := 1) (L' := [some (.ref g), some (.int (iI i))]) (st' := [.ref g]) rfl ?_
  refine wp_getf rfl rfl hg hgl hf ?_
  refine wp_g (n := 1) (pc' := 5) (L' := [some (.ref g), some (.int (iI i))]) (st' := [.int (iI i), .ref a]) rfl ?_
  refine wp_cs (As := [.ref a, .int (iI i)]) (rest := []) rfl rfl rfl rfl (Nat.le_of_ble_eq_true rfl) (Nat.le_of_ble_eq_true rfl) (m_at hh ha hn i i1 i2) (fun r1 h1 q1 => ?_)
  obtain ⟨rfl, rfl⟩ := q1
  exact wp_iret rfl rfl ⟨rfl, rfl⟩
end TST
