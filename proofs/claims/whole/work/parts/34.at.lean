section TST
variable {E : am_E} {k : Nat} {h : am_H}
/-- PegStrings.at -/
theorem m_at {a n : Nat} {F : Nat → Int} (hh : h[a]? = some (cI n F)) (ha : a < 1000000) (hn : n ≤ 100000) (i : Int) (i1 : -2147483648 ≤ i) (i2 : i < 2147483648) : wp E k 182 0 (am_entry [.ref a, .int (iI i)] 2) [] h (aI (if 0 ≤ i ∧ i < n then F i.toNat else -1) h) := by
  refine wp_g (n := 1) (pc' := 1) (L' := [some (.ref a), some (.int (iI i))]) (st' := [.int (iI i)]) rfl ?_
  refine wp_ifI rfl rfl i1 i2 (fun c => ?_) (fun c => ?_)
  · have c : i < 0 := c
    refine wp_g (n := 1) (pc' := 17) (L' := [some (.ref a), some (.int (iI i))]) (st' := [.int (iI (-1))]) rfl ?_
    refine wp_iret rfl rfl ⟨?_, rfl⟩
    rw [if_neg (by omega)]
  · have c : ¬ i < 0 := c
    refine wp_g (n := 2) (pc' := 6) (L' := [some (.ref a), some (.int (iI i))]) (st' := [.ref a, .int (iI i)]) rfl ?_
    refine wp_alen rfl hh ha ?_
    refine wp_icmpI rfl rfl i1 i2 (by omega) (by omega) (fun c2 => ?_) (fun c2 => ?_)
    · have c2 : (n : Int) ≤ i := c2
      refine wp_g (n := 1) (pc' := 17) (L' := [some (.ref a), some (.int (iI i))]) (st' := [.int (iI (-1))]) rfl ?_
      refine wp_iret rfl rfl ⟨?_, rfl⟩
      rw [if_neg (by omega)]
    · have c2 : ¬ (n : Int) ≤ i := c2
      refine wp_g (n := 2) (pc' := 12) (L' := [some (.ref a), some (.int (iI i))]) (st' := [.int (iI i), .ref a]) rfl ?_
      refine wp_iald rfl hh ha (by omega) (by omega) hn ?_
      refine wp_g (n := 1) (pc' := 17) (L' := [some (.ref a), some (.int (iI i))]) (st' := [.int (iI (F i.toNat))]) rfl ?_
      refine wp_iret rfl rfl ⟨?_, rfl⟩
      rw [if_pos (by omega)]
/-- PegStrings.put -/
theorem m_put {a n : Nat} {F : Nat → Int} (hh : h[a]? = some (cI n F)) (ha : a < 1000000) (hn : n ≤ 100000) (i y : Int) (i1 : -2147483648 ≤ i) (i2 : i < 2147483648) : wp E k 183 0 (am_entry [.ref a, .int (iI i), .int (iI y)] 3) [] h (fun r h1 => r = none ∧ h1.length = h.length ∧ h1[a]? = some (cI n (if 0 ≤ i ∧ i < n then up F i.toNat y else F)) ∧ ∀ b : Nat, b ≠ a → h1[b]? = h[b]?) := by
  refine wp_g (n := 1) (pc' := 1) (L' := [some (.ref a), some (.int (iI i)), some (.int (iI y))]) (st' := [.int (iI i)]) rfl ?_
  refine wp_ifI rfl rfl i1 i2 (fun c => ?_) (fun c => ?_)
  · have c : i < 0 := c
    refine wp_vret rfl rfl ⟨rfl, rfl, ?_, fun b _ => rfl⟩
    rw [if_neg (by omega)]
    exact hh
  · have c : ¬ i < 0 := c
    refine wp_g (n := 2) (pc' := 6) (L' := [some (.ref a), some (.int (iI i)), some (.int (iI y))]) (st' := [.ref a, .int (iI i)]) rfl ?_
    refine wp_alen rfl hh ha ?_
    refine wp_icmpI rfl rfl i1 i2 (by omega) (by omega) (fun c2 => ?_) (fun c2 => ?_)
    · have c2 : (n : Int) ≤ i := c2
      refine wp_vret rfl rfl ⟨rfl, rfl, ?_, fun b _ => rfl⟩
      rw [if_neg (by omega)]
      exact hh
    · have c2 : ¬ (n : Int) ≤ i := c2
      refine wp_g (n := 3) (pc' := 13) (L' := [some (.ref a), some (.int (iI i)), some (.int (iI y))]) (st' := [.int (iI y), .int (iI i), .ref a]) rfl ?_
      refine wp_iasF rfl hh (by omega) (by omega) hn (fun h1 hl hz hf => ?_)
      refine wp_vret rfl rfl ⟨rfl, hl, ?_, hf⟩
      rw [if_pos (by omega)]
      exact hz
end TST
