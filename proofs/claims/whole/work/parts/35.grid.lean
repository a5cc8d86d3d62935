/-- a Grid at g: rows, columns, edges, kinds, spots, edges by spot -/
def GR (h : am_H) (g : Nat) (R C n : Int) (K S B : Nat → Int) : Prop :=
  h[g]? = some (cO 3 [.int (iI R), .int (iI C), .int (iI n), .ref (g + 1), .ref (g + 2), .ref (g + 3)]) ∧ h[g + 1]? = some (cI 24 K) ∧ h[g + 2]? = some (cI 24 S) ∧ h[g + 3]? = some (cI 32 B) ∧ g + 3 < 1000000 ∧
  (0 ≤ R ∧ R ≤ 4) ∧ (0 ≤ C ∧ C ≤ 4) ∧ (0 ≤ n ∧ n ≤ 24) ∧ (∀ e : Nat, (e : Int) < n → (0 ≤ K e ∧ K e ≤ 3) ∧ 0 ≤ S e ∧ S e < 32) ∧ ∀ s : Nat, (s : Int) < 2 * (R * C) → -1 ≤ B s ∧ B s < n
section GRD
variable {E : am_E} {k : Nat} {h : am_H} {g : Nat} {R C n : Int} {K S B : Nat → Int}
theorem RC16 {R C : Int} (r : 0 ≤ R ∧ R ≤ 4) (c : 0 ≤ C ∧ C ≤ 4) : 0 ≤ R * C ∧ R * C ≤ 16 := by
  have h1 : R = 0 ∨ R = 1 ∨ R = 2 ∨ R = 3 ∨ R = 4 := by omega
  rcases h1 with rfl | rfl | rfl | rfl | rfl <;> omega
/-- Grid.rows -/
theorem m_G_rows (G : GR h g R C n K S B)   : wp E k 25 0 (am_entry [.ref g] 1) [] h (aI R h) := by
  have G0 := G
  obtain ⟨hg, hk, hs, hb, hgl, hR, hC, hn, hK, hB⟩ := G
  have hRC := RC16 hR hC
  refine wp_g (n := 1) (pc' := 1) (L' := [some (.ref g)]) (st' := [.ref g]) rfl ?_
  refine wp_getf rfl rfl hg (by omega) rfl ?_
  refine wp_iret rfl rfl ?_
  refine ⟨congrArg (fun z => some (Value.int (iI z))) ?_, rfl⟩
  (try simp only [Int.natCast_ofNat] at *)
  first | rfl | (split <;> omega) | (repeat (first | rw [if_pos (by omega)] | rw [if_neg (by omega)])) | omega
/-- Grid.columns -/
theorem m_G_columns (G : GR h g R C n K S B)   : wp E k 26 0 (am_entry [.ref g] 1) [] h (aI C h) := by
  have G0 := G
  obtain ⟨hg, hk, hs, hb, hgl, hR, hC, hn, hK, hB⟩ := G
  have hRC := RC16 hR hC
  refine wp_g (n := 1) (pc' := 1) (L' := [some (.ref g)]) (st' := [.ref g]) rfl ?_
  refine wp_getf rfl rfl hg (by omega) rfl ?_
  refine wp_iret rfl rfl ?_
  refine ⟨congrArg (fun z => some (Value.int (iI z))) ?_, rfl⟩
  (try simp only [Int.natCast_ofNat] at *)
  first | rfl | (split <;> omega) | (repeat (first | rw [if_pos (by omega)] | rw [if_neg (by omega)])) | omega
/-- Grid.edges -/
theorem m_G_edges (G : GR h g R C n K S B)   : wp E k 28 0 (am_entry [.ref g] 1) [] h (aI n h) := by
  have G0 := G
  obtain ⟨hg, hk, hs, hb, hgl, hR, hC, hn, hK, hB⟩ := G
  have hRC := RC16 hR hC
  refine wp_g (n := 1) (pc' := 1) (L' := [some (.ref g)]) (st' := [.ref g]) rfl ?_
  refine wp_getf rfl rfl hg (by omega) rfl ?_
  refine wp_iret rfl rfl ?_
  refine ⟨congrArg (fun z => some (Value.int (iI z))) ?_, rfl⟩
  (try simp only [Int.natCast_ofNat] at *)
  first | rfl | (split <;> omega) | (repeat (first | rw [if_pos (by omega)] | rw [if_neg (by omega)])) | omega
/-- Grid.cells -/
theorem m_G_cells (G : GR h g R C n K S B)   : wp E k 27 0 (am_entry [.ref g] 1) [] h (aI (R * C) h) := by
  have G0 := G
  obtain ⟨hg, hk, hs, hb, hgl, hR, hC, hn, hK, hB⟩ := G
  have hRC := RC16 hR hC
  refine wp_g (n := 1) (pc' := 1) (L' := [some (.ref g)]) (st' := [.ref g]) rfl ?_
  refine wp_getf rfl rfl hg (by omega) rfl ?_
  refine wp_g (n := 1) (pc' := 5) (L' := [some (.ref g)]) (st' := [.ref g, .int (iI R)]) rfl ?_
  refine wp_getf rfl rfl hg (by omega) rfl ?_
  refine wp_mul rfl ?_
  refine wp_iret rfl rfl ?_
  refine ⟨congrArg (fun z => some (Value.int (iI z))) ?_, rfl⟩
  (try simp only [Int.natCast_ofNat] at *)
  first | rfl | (split <;> omega) | (repeat (first | rw [if_pos (by omega)] | rw [if_neg (by omega)])) | omega
/-- Grid.hasEdge -/
theorem m_G_hasEdge (G : GR h g R C n K S B) (e : Int) (e1 : -2147483648 ≤ e) (e2 : e < 2147483648)  : wp E k 29 0 (am_entry [.ref g, .int (iI e)] 2) [] h (aI (if 0 ≤ e ∧ e < n then 1 else 0) h) := by
  have G0 := G
  obtain ⟨hg, hk, hs, hb, hgl, hR, hC, hn, hK, hB⟩ := G
  have hRC := RC16 hR hC
  refine wp_g (n := 1) (pc' := 1) (L' := [some (.ref g), some (.int (iI e))]) (st' := [.int (iI e)]) rfl ?_
  refine wp_ifI rfl rfl (by omega) (by omega) (fun c1 => ?_) (fun c1 => ?_)
  · have c1 : (e < 0) := c1
    refine wp_g (n := 1) (pc' := 17) (L' := [some (.ref g), some (.int (iI e))]) (st' := [.int (iI 0)]) rfl ?_
    refine wp_zret rfl rfl (by omega) ?_
    refine ⟨congrArg (fun z => some (Value.int (iI z))) ?_, rfl⟩
    (try simp only [Int.natCast_ofNat] at *)
    first | rfl | (split <;> omega) | (repeat (first | rw [if_pos (by omega)] | rw [if_neg (by omega)])) | omega
  · have c1 : (¬ e < 0) := c1
    refine wp_g (n := 2) (pc' := 6) (L' := [some (.ref g), some (.int (iI e))]) (st' := [.ref g, .int (iI e)]) rfl ?_
    refine wp_getf rfl rfl hg (by omega) rfl ?_
    refine wp_icmpI rfl rfl (by omega) (by omega) (by omega) (by omega) (fun c2 => ?_) (fun c2 => ?_)
    · have c2 : (n ≤ e) := c2
      refine wp_g (n := 1) (pc' := 17) (L' := [some (.ref g), some (.int (iI e))]) (st' := [.int (iI 0)]) rfl ?_
      refine wp_zret rfl rfl (by omega) ?_
      refine ⟨congrArg (fun z => some (Value.int (iI z))) ?_, rfl⟩
      (try simp only [Int.natCast_ofNat] at *)
      first | rfl | (split <;> omega) | (repeat (first | rw [if_pos (by omega)] | rw [if_neg (by omega)])) | omega
    · have c2 : (¬ n ≤ e) := c2
      refine wp_g (n := 2) (pc' := 17) (L' := [some (.ref g), some (.int (iI e))]) (st' := [.int (iI 1)]) rfl ?_
      refine wp_zret rfl rfl (by omega) ?_
      refine ⟨congrArg (fun z => some (Value.int (iI z))) ?_, rfl⟩
      (try simp only [Int.natCast_ofNat] at *)
      first | rfl | (split <;> omega) | (repeat (first | rw [if_pos (by omega)] | rw [if_neg (by omega)])) | omega
/-- Grid.hasCell -/
theorem m_G_hasCell (G : GR h g R C n K S B) (c : Int) (c1 : -2147483648 ≤ c) (c2 : c < 2147483648)  : wp E k 30 0 (am_entry [.ref g, .int (iI c)] 2) [] h (aI (if 0 ≤ c ∧ c < R * C then 1 else 0) h) := by
  have G0 := G
  obtain ⟨hg, hk, hs, hb, hgl, hR, hC, hn, hK, hB⟩ := G
  have hRC := RC16 hR hC
  refine wp_g (n := 1) (pc' := 1) (L' := [some (.ref g), some (.int (iI c))]) (st' := [.int (iI c)]) rfl ?_
  refine wp_ifI rfl rfl (by omega) (by omega) (fun c1 => ?_) (fun c1 => ?_)
  · have c1 : (c < 0) := c1
    refine wp_g (n := 1) (pc' := 22) (L' := [some (.ref g), some (.int (iI c))]) (st' := [.int (iI 0)]) rfl ?_
    refine wp_zret rfl rfl (by omega) ?_
    refine ⟨congrArg (fun z => some (Value.int (iI z))) ?_, rfl⟩
    (try simp only [Int.natCast_ofNat] at *)
    first | rfl | (split <;> omega) | (repeat (first | rw [if_pos (by omega)] | rw [if_neg (by omega)])) | omega
  · have c1 : (¬ c < 0) := c1
    refine wp_g (n := 2) (pc' := 6) (L' := [some (.ref g), some (.int (iI c))]) (st' := [.ref g, .int (iI c)]) rfl ?_
    refine wp_getf rfl rfl hg (by omega) rfl ?_
    refine wp_g (n := 1) (pc' := 10) (L' := [some (.ref g), some (.int (iI c))]) (st' := [.ref g, .int (iI R), .int (iI c)]) rfl ?_
    refine wp_getf rfl rfl hg (by omega) rfl ?_
    refine wp_mul rfl ?_
    refine wp_icmpI rfl rfl (by omega) (by omega) (by omega) (by omega) (fun c2 => ?_) (fun c2 => ?_)
    · have c2 : ((R * C) ≤ c) := c2
      refine wp_g (n := 1) (pc' := 22) (L' := [some (.ref g), some (.int (iI c))]) (st' := [.int (iI 0)]) rfl ?_
      refine wp_zret rfl rfl (by omega) ?_
      refine ⟨congrArg (fun z => some (Value.int (iI z))) ?_, rfl⟩
      (try simp only [Int.natCast_ofNat] at *)
      first | rfl | (split <;> omega) | (repeat (first | rw [if_pos (by omega)] | rw [if_neg (by omega)])) | omega
    · have c2 : (¬ (R * C) ≤ c) := c2
      refine wp_g (n := 2) (pc' := 22) (L' := [some (.ref g), some (.int (iI c))]) (st' := [.int (iI 1)]) rfl ?_
      refine wp_zret rfl rfl (by omega) ?_
      refine ⟨congrArg (fun z => some (Value.int (iI z))) ?_, rfl⟩
      (try simp only [Int.natCast_ofNat] at *)
      first | rfl | (split <;> omega) | (repeat (first | rw [if_pos (by omega)] | rw [if_neg (by omega)])) | omega
/-- Grid.kindOf -/
theorem m_G_kindOf (G : GR h g R C n K S B) (e : Int) (e1 : -2147483648 ≤ e) (e2 : e < 2147483648)  : wp E k 33 0 (am_entry [.ref g, .int (iI e)] 2) [] h (aI (if 0 ≤ e ∧ e < n then K e.toNat else -1) h) := by
  have G0 := G
  obtain ⟨hg, hk, hs, hb, hgl, hR, hC, hn, hK, hB⟩ := G
  have hRC := RC16 hR hC
  refine wp_g (n := 1) (pc' := 1) (L' := [some (.ref g), some (.int (iI e))]) (st' := [.int (iI e)]) rfl ?_
  refine wp_ifI rfl rfl (by omega) (by omega) (fun c1 => ?_) (fun c1 => ?_)
  · have c1 : (e < 0) := c1
    refine wp_g (n := 1) (pc' := 28) (L' := [some (.ref g), some (.int (iI e))]) (st' := [.int (iI (-1))]) rfl ?_
    refine wp_iret rfl rfl ?_
    refine ⟨congrArg (fun z => some (Value.int (iI z))) ?_, rfl⟩
    (try simp only [Int.natCast_ofNat] at *)
    first | rfl | (split <;> omega) | (repeat (first | rw [if_pos (by omega)] | rw [if_neg (by omega)])) | omega
  · have c1 : (¬ e < 0) := c1
    refine wp_g (n := 2) (pc' := 6) (L' := [some (.ref g), some (.int (iI e))]) (st' := [.ref g, .int (iI e)]) rfl ?_
    refine wp_getf rfl rfl hg (by omega) rfl ?_
    refine wp_icmpI rfl rfl (by omega) (by omega) (by omega) (by omega) (fun c2 => ?_) (fun c2 => ?_)
    · have c2 : (n ≤ e) := c2
      refine wp_g (n := 1) (pc' := 28) (L' := [some (.ref g), some (.int (iI e))]) (st' := [.int (iI (-1))]) rfl ?_
      refine wp_iret rfl rfl ?_
      refine ⟨congrArg (fun z => some (Value.int (iI z))) ?_, rfl⟩
      (try simp only [Int.natCast_ofNat] at *)
      first | rfl | (split <;> omega) | (repeat (first | rw [if_pos (by omega)] | rw [if_neg (by omega)])) | omega
    · have c2 : (¬ n ≤ e) := c2
      refine wp_g (n := 2) (pc' := 15) (L' := [some (.ref g), some (.int (iI e))]) (st' := [.int (iI 24), .int (iI e)]) rfl ?_
      refine wp_icmpI rfl rfl (by omega) (by omega) (by omega) (by omega) (fun c3 => ?_) (fun c3 => ?_)
      · have c3 : (24 ≤ e) := c3
        refine wp_g (n := 1) (pc' := 28) (L' := [some (.ref g), some (.int (iI e))]) (st' := [.int (iI (-1))]) rfl ?_
        refine wp_iret rfl rfl ?_
        refine ⟨congrArg (fun z => some (Value.int (iI z))) ?_, rfl⟩
        (try simp only [Int.natCast_ofNat] at *)
        first | rfl | (split <;> omega) | (repeat (first | rw [if_pos (by omega)] | rw [if_neg (by omega)])) | omega
      · have c3 : (¬ 24 ≤ e) := c3
        refine wp_g (n := 1) (pc' := 19) (L' := [some (.ref g), some (.int (iI e))]) (st' := [.ref g]) rfl ?_
        refine wp_getf rfl rfl hg (by omega) rfl ?_
        refine wp_g (n := 1) (pc' := 23) (L' := [some (.ref g), some (.int (iI e))]) (st' := [.int (iI e), .ref (g + 1)]) rfl ?_
        refine wp_iald rfl hk (by omega) (by omega) (by omega) (by omega) ?_
        refine wp_g (n := 1) (pc' := 28) (L' := [some (.ref g), some (.int (iI e))]) (st' := [.int (iI (K (e).toNat))]) rfl ?_
        refine wp_iret rfl rfl ?_
        refine ⟨congrArg (fun z => some (Value.int (iI z))) ?_, rfl⟩
        (try simp only [Int.natCast_ofNat] at *)
        first | rfl | (split <;> omega) | (repeat (first | rw [if_pos (by omega)] | rw [if_neg (by omega)])) | omega
end GRD
