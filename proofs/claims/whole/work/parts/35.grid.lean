/-- a Grid at g: rows, columns, edges, kinds, spots, edges by spot -/
def GR (h : am_H) (g : Nat) (R C n : Int) (K S B : Nat → Int) : Prop :=
  h[g]? = some (cO 3 [.int (iI R), .int (iI C), .int (iI n), .ref (g + 1), .ref (g + 2), .ref (g + 3)]) ∧ h[g + 1]? = some (cI 24 K) ∧ h[g + 2]? = some (cI 24 S) ∧ h[g + 3]? = some (cI 32 B) ∧ g + 3 < 1000000 ∧
  (0 ≤ R ∧ R ≤ 4) ∧ (0 ≤ C ∧ C ≤ 4) ∧ (0 ≤ n ∧ n ≤ 24) ∧ (∀ e : Nat, (e : Int) < n → (0 ≤ K e ∧ K e ≤ 3) ∧ 0 ≤ S e ∧ S e < 32) ∧ ∀ s : Nat, (s : Int) < 2 * (R * C) → -1 ≤ B s ∧ B s < n
section GRD
variable {E : am_E} {k : Nat} {h : am_H} {g : Nat} {R C n : Int} {K S B : Nat → Int}
theorem RC16 {R C : Int} (r : 0 ≤ R ∧ R ≤ 4) (c : 0 ≤ C ∧ C ≤ 4) : 0 ≤ R * C ∧ R * C ≤ 16 := by
  have h1 : R = 0 ∨ R = 1 ∨ R = 2 ∨ R = 3 ∨ R = 4 := by omega
  rcases h1 with rfl | rfl | rfl | rfl | rfl <;> omega
/-- Grid.rows -/
theorem m_G_rows (G : GR h g R C n K S B)   : wp E k 25 0 (am_entry [.ref g] 1) [] h (aI R h) := by
  have G0 := G
  obtain ⟨hg, hk, hs, hb, hgl, hR, hC, hn, hK, hB⟩ := G
  have hRC := RC16 hR hC
  refine wp_g (n := 1) (pc' := 1) (L' := [some (.ref g)]) (st' := [.ref g]) rfl ?_
  refine wp_getf rfl rfl hg (by omega) rfl ?_
  refine wp_iret rfl rfl ?_
  refine ⟨congrArg (fun z => some (Value.int (iI z))) ?_, rfl⟩
  (try simp only [Int.natCast_ofNat] at *)
  first | rfl | (split <;> omega) | (repeat (first | rw [if_pos (by omega)] | rw [if_neg (by omega)])) | omega
/-- Grid.columns -/
theorem m_G_columns (G : GR h g R C n K S B)   : wp E k 26 0 (am_entry [.ref g] 1) [] h (aI C h) := by
  have G0 := G
  obtain ⟨hg, hk, hs, hb, hgl, hR, hC, hn, hK, hB⟩ := G
  have hRC := RC16 hR hC
  refine wp_g (n := 1) (pc' := 1) (L' := [some (.ref g)]) (st' := [.ref g]) rfl ?_
  refine wp_getf rfl rfl hg (by omega) rfl ?_
  refine wp_iret rfl rfl ?_
  refine ⟨congrArg (fun z => some (Value.int (iI z))) ?_, rfl⟩
  (try simp only [Int.natCast_ofNat] at *)
  first | rfl | (split <;> omega) | (repeat (first | rw [if_pos (by omega)] | rw [if_neg (by omega)])) | omega
/-- Grid.edges -/
theorem m_G_edges (G : GR h g R C n K S B)   : wp E k 28 0 (am_entry [.ref g] 1) [] h (aI n h) := by
  have G0 := G
  obtain ⟨hg, hk, hs, hb, hgl, hR, hC, hn, hK, hB⟩ := G
  have hRC := RC16 hR hC
  refine wp_g (n := 1) (pc' := 1) (L' := [some (.ref g)]) (st' := [.ref g]) rfl ?_
  refine wp_getf rfl rfl hg (by omega) rfl ?_
  refine wp_iret rfl rfl ?_
  refine ⟨congrArg (fun z => some (Value.int (iI z))) ?_, rfl⟩
  (try simp only [Int.natCast_ofNat] at *)
  first | rfl | (split <;> omega) | (repeat (first | rw [if_pos (by omega)] | rw [if_neg (by omega)])) | omega
/-- Grid.cells -/
theorem m_G_cells (G : GR h g R C n K S B)   : wp E k 27 0 (am_entry [.ref g] 1) [] h (aI (R * C) h) := by
  have G0 := G
  obtain ⟨hg, hk, hs, hb, hgl, hR, hC, hn, hK, hB⟩ := G
  have hRC := RC16 hR hC
  refine wp_g (n := 1) (pc' := 1) (L' := [some (.ref g)]) (st' := [.ref g]) rfl ?_
  refine wp_getf rfl rfl hg (by omega) rfl ?_
  refine wp_g (n := 1) (pc' := 5) (L' := [some (.ref g)]) (st' := [.ref g, .int (iI R)]) rfl ?_
  refine wp_getf rfl rfl hg (by omega) rfl ?_
  refine wp_mul rfl ?_
  refine wp_iret rfl rfl ?_
  refine ⟨congrArg (fun z => some (Value.int (iI z))) ?_, rfl⟩
  (try simp only [Int.natCast_ofNat] at *)
  first | rfl | (split <;> omega) | (repeat (first | rw [if_pos (by omega)] | rw [if_neg (by omega)])) | omega
/-- Grid.hasEdge -/
theorem m_G_hasEdge (G : GR h g R C n K S B) (e : Int) (e1 : -2147483648 ≤ e) (e2 : e < 2147483648)  : wp E k 29 0 (am_entry [.ref g, .int (iI e)] 2) [] h (aI (if 0 ≤ e ∧ e < n then 1 else 0) h) := by
  have G0 := G
  obtain ⟨hg, hk, hs, hb, hgl, hR, hC, hn, hK, hB⟩ := G
  have hRC := RC16 hR hC
  refine wp_g (n := 1) (pc' := 1) (L' := [some (.ref g), some (.int (iI e))]) (st' := [.int (iI e)]) rfl ?_
  refine wp_ifI rfl rfl (by omega) (by omega) (fun c1 => ?_) (fun c1 => ?_)
  · have c1 : ((e : Int) < 0) := c1
    refine wp_g (n := 1) (pc' := 17) (L' := [some (.ref g), some (.int (iI e))]) (st' := [.int (iI 0)]) rfl ?_
    refine wp_zret rfl rfl (by omega) ?_
    refine ⟨congrArg (fun z => some (Value.int (iI z))) ?_, rfl⟩
    (try simp only [Int.natCast_ofNat] at *)
    first | rfl | (split <;> omega) | (repeat (first | rw [if_pos (by omega)] | rw [if_neg (by omega)])) | omega
  · have c1 : (¬ (e : Int) < 0) := c1
    refine wp_g (n := 2) (pc' := 6) (L' := [some (.ref g), some (.int (iI e))]) (st' := [.ref g, .int (iI e)]) rfl ?_
    refine wp_getf rfl rfl hg (by omega) rfl ?_
    refine wp_icmpI rfl rfl (by omega) (by omega) (by omega) (by omega) (fun c2 => ?_) (fun c2 => ?_)
    · have c2 : ((n : Int) ≤ (e : Int)) := c2
      refine wp_g (n := 1) (pc' := 17) (L' := [some (.ref g), some (.int (iI e))]) (st' := [.int (iI 0)]) rfl ?_
      refine wp_zret rfl rfl (by omega) ?_
      refine ⟨congrArg (fun z => some (Value.int (iI z))) ?_, rfl⟩
      (try simp only [Int.natCast_ofNat] at *)
      first | rfl | (split <;> omega) | (repeat (first | rw [if_pos (by omega)] | rw [if_neg (by omega)])) | omega
    · have c2 : (¬ (n : Int) ≤ (e : Int)) := c2
      refine wp_g (n := 2) (pc' := 17) (L' := [some (.ref g), some (.int (iI e))]) (st' := [.int (iI 1)]) rfl ?_
      refine wp_zret rfl rfl (by omega) ?_
      refine ⟨congrArg (fun z => some (Value.int (iI z))) ?_, rfl⟩
      (try simp only [Int.natCast_ofNat] at *)
      first | rfl | (split <;> omega) | (repeat (first | rw [if_pos (by omega)] | rw [if_neg (by omega)])) | omega
/-- Grid.hasCell -/
theorem m_G_hasCell (G : GR h g R C n K S B) (c : Int) (c1 : -2147483648 ≤ c) (c2 : c < 2147483648)  : wp E k 30 0 (am_entry [.ref g, .int (iI c)] 2) [] h (aI (if 0 ≤ c ∧ c < R * C then 1 else 0) h) := by
  have G0 := G
  obtain ⟨hg, hk, hs, hb, hgl, hR, hC, hn, hK, hB⟩ := G
  have hRC := RC16 hR hC
  refine wp_g (n := 1) (pc' := 1) (L' := [some (.ref g), some (.int (iI c))]) (st' := [.int (iI c)]) rfl ?_
  refine wp_ifI rfl rfl (by omega) (by omega) (fun c1 => ?_) (fun c1 => ?_)
  · have c1 : ((c : Int) < 0) := c1
    refine wp_g (n := 1) (pc' := 22) (L' := [some (.ref g), some (.int (iI c))]) (st' := [.int (iI 0)]) rfl ?_
    refine wp_zret rfl rfl (by omega) ?_
    refine ⟨congrArg (fun z => some (Value.int (iI z))) ?_, rfl⟩
    (try simp only [Int.natCast_ofNat] at *)
    first | rfl | (split <;> omega) | (repeat (first | rw [if_pos (by omega)] | rw [if_neg (by omega)])) | omega
  · have c1 : (¬ (c : Int) < 0) := c1
    refine wp_g (n := 2) (pc' := 6) (L' := [some (.ref g), some (.int (iI c))]) (st' := [.ref g, .int (iI c)]) rfl ?_
    refine wp_getf rfl rfl hg (by omega) rfl ?_
    refine wp_g (n := 1) (pc' := 10) (L' := [some (.ref g), some (.int (iI c))]) (st' := [.ref g, .int (iI R), .int (iI c)]) rfl ?_
    refine wp_getf rfl rfl hg (by omega) rfl ?_
    refine wp_mul rfl ?_
    refine wp_icmpI rfl rfl (by omega) (by omega) (by omega) (by omega) (fun c2 => ?_) (fun c2 => ?_)
    · have c2 : (((R * C) : Int) ≤ (c : Int)) := c2
      refine wp_g (n := 1) (pc' := 22) (L' := [some (.ref g), some (.int (iI c))]) (st' := [.int (iI 0)]) rfl ?_
      refine wp_zret rfl rfl (by omega) ?_
      refine ⟨congrArg (fun z => some (Value.int (iI z))) ?_, rfl⟩
      (try simp only [Int.natCast_ofNat] at *)
      first | rfl | (split <;> omega) | (repeat (first | rw [if_pos (by omega)] | rw [if_neg (by omega)])) | omega
    · have c2 : (¬ ((R * C) : Int) ≤ (c : Int)) := c2
      refine wp_g (n := 2) (pc' := 22) (L' := [some (.ref g), some (.int (iI c))]) (st' := [.int (iI 1)]) rfl ?_
      refine wp_zret rfl rfl (by omega) ?_
      refine ⟨congrArg (fun z => some (Value.int (iI z))) ?_, rfl⟩
      (try simp only [Int.natCast_ofNat] at *)
      first | rfl | (split <;> omega) | (repeat (first | rw [if_pos (by omega)] | rw [if_neg (by omega)])) | omega
/-- Grid.kindOf -/
theorem m_G_kindOf (G : GR h g R C n K S B) (e : Int) (e1 : -2147483648 ≤ e) (e2 : e < 2147483648)  : wp E k 33 0 (am_entry [.ref g, .int (iI e)] 2) [] h (aI (if 0 ≤ e ∧ e < n then K e.toNat else -1) h) := by
  have G0 := G
  obtain ⟨hg, hk, hs, hb, hgl, hR, hC, hn, hK, hB⟩ := G
  have hRC := RC16 hR hC
  refine wp_g (n := 1) (pc' := 1) (L' := [some (.ref g), some (.int (iI e))]) (st' := [.int (iI e)]) rfl ?_
  refine wp_ifI rfl rfl (by omega) (by omega) (fun c1 => ?_) (fun c1 => ?_)
  · have c1 : ((e : Int) < 0) := c1
    refine wp_g (n := 1) (pc' := 28) (L' := [some (.ref g), some (.int (iI e))]) (st' := [.int (iI (-1))]) rfl ?_
    refine wp_iret rfl rfl ?_
    refine ⟨congrArg (fun z => some (Value.int (iI z))) ?_, rfl⟩
    (try simp only [Int.natCast_ofNat] at *)
    first | rfl | (split <;> omega) | (repeat (first | rw [if_pos (by omega)] | rw [if_neg (by omega)])) | omega
  · have c1 : (¬ (e : Int) < 0) := c1
    refine wp_g (n := 2) (pc' := 6) (L' := [some (.ref g), some (.int (iI e))]) (st' := [.ref g, .int (iI e)]) rfl ?_
    refine wp_getf rfl rfl hg (by omega) rfl ?_
    refine wp_icmpI rfl rfl (by omega) (by omega) (by omega) (by omega) (fun c2 => ?_) (fun c2 => ?_)
    · have c2 : ((n : Int) ≤ (e : Int)) := c2
      refine wp_g (n := 1) (pc' := 28) (L' := [some (.ref g), some (.int (iI e))]) (st' := [.int (iI (-1))]) rfl ?_
      refine wp_iret rfl rfl ?_
      refine ⟨congrArg (fun z => some (Value.int (iI z))) ?_, rfl⟩
      (try simp only [Int.natCast_ofNat] at *)
      first | rfl | (split <;> omega) | (repeat (first | rw [if_pos (by omega)] | rw [if_neg (by omega)])) | omega
    · have c2 : (¬ (n : Int) ≤ (e : Int)) := c2
      refine wp_g (n := 2) (pc' := 15) (L' := [some (.ref g), some (.int (iI e))]) (st' := [.int (iI 24), .int (iI e)]) rfl ?_
      refine wp_icmpI rfl rfl (by omega) (by omega) (by omega) (by omega) (fun c3 => ?_) (fun c3 => ?_)
      · have c3 : ((24 : Int) ≤ (e : Int)) := c3
        refine wp_g (n := 1) (pc' := 28) (L' := [some (.ref g), some (.int (iI e))]) (st' := [.int (iI (-1))]) rfl ?_
        refine wp_iret rfl rfl ?_
        refine ⟨congrArg (fun z => some (Value.int (iI z))) ?_, rfl⟩
        (try simp only [Int.natCast_ofNat] at *)
        first | rfl | (split <;> omega) | (repeat (first | rw [if_pos (by omega)] | rw [if_neg (by omega)])) | omega
      · have c3 : (¬ (24 : Int) ≤ (e : Int)) := c3
        refine wp_g (n := 1) (pc' := 19) (L' := [some (.ref g), some (.int (iI e))]) (st' := [.ref g]) rfl ?_
        refine wp_getf rfl rfl hg (by omega) rfl ?_
        refine wp_g (n := 1) (pc' := 23) (L' := [some (.ref g), some (.int (iI e))]) (st' := [.int (iI e), .ref (g + 1)]) rfl ?_
        refine wp_iald rfl hk (by omega) (by omega) (by omega) (by omega) ?_
        refine wp_g (n := 1) (pc' := 28) (L' := [some (.ref g), some (.int (iI e))]) (st' := [.int (iI (K (e).toNat))]) rfl ?_
        refine wp_iret rfl rfl ?_
        refine ⟨congrArg (fun z => some (Value.int (iI z))) ?_, rfl⟩
        (try simp only [Int.natCast_ofNat] at *)
        first | rfl | (split <;> omega) | (repeat (first | rw [if_pos (by omega)] | rw [if_neg (by omega)])) | omega
/-- Grid.rowOf -/
theorem m_G_rowOf (G : GR h g R C n K S B) (c : Int) (c1 : -2147483648 ≤ c) (c2 : c < 2147483648) (c0 : 0 ≤ c) : wp E k 31 0 (am_entry [.ref g, .int (iI c)] 2) [] h (aI (if C < 1 then 0 else c / C) h) := by
  have G0 := G
  obtain ⟨hg, hk, hs, hb, hgl, hR, hC, hn, hK, hB⟩ := G
  have hRC := RC16 hR hC
  refine wp_g (n := 1) (pc' := 1) (L' := [some (.ref g), some (.int (iI c))]) (st' := [.ref g]) rfl ?_
  refine wp_getf rfl rfl hg (by omega) rfl ?_
  refine wp_g (n := 1) (pc' := 5) (L' := [some (.ref g), some (.int (iI c))]) (st' := [.int (iI 1), .int (iI C)]) rfl ?_
  refine wp_icmpI rfl rfl (by omega) (by omega) (by omega) (by omega) (fun c1 => ?_) (fun c1 => ?_)
  · have c1 : ((1 : Int) ≤ (C : Int)) := c1
    refine wp_g (n := 2) (pc' := 14) (L' := [some (.ref g), some (.int (iI c))]) (st' := [.ref g, .int (iI c)]) rfl ?_
    refine wp_getf rfl rfl hg (by omega) rfl ?_
    refine wp_div rfl (by omega) (by omega) (by omega) (by omega) ?_
    refine wp_iret rfl rfl ?_
    refine ⟨congrArg (fun z => some (Value.int (iI z))) ?_, rfl⟩
    (try simp only [Int.natCast_ofNat] at *)
    first | rfl | (split <;> omega) | (repeat (first | rw [if_pos (by omega)] | rw [if_neg (by omega)])) | omega
  · have c1 : (¬ (1 : Int) ≤ (C : Int)) := c1
    refine wp_g (n := 2) (pc' := 18) (L' := [some (.ref g), some (.int (iI c))]) (st' := [.int (iI 0)]) rfl ?_
    refine wp_iret rfl rfl ?_
    refine ⟨congrArg (fun z => some (Value.int (iI z))) ?_, rfl⟩
    (try simp only [Int.natCast_ofNat] at *)
    first | rfl | (split <;> omega) | (repeat (first | rw [if_pos (by omega)] | rw [if_neg (by omega)])) | omega
/-- Grid.columnOf -/
theorem m_G_columnOf (G : GR h g R C n K S B) (c : Int) (c1 : -2147483648 ≤ c) (c2 : c < 2147483648) (c0 : 0 ≤ c) : wp E k 32 0 (am_entry [.ref g, .int (iI c)] 2) [] h (aI (if C < 1 then 0 else c % C) h) := by
  have G0 := G
  obtain ⟨hg, hk, hs, hb, hgl, hR, hC, hn, hK, hB⟩ := G
  have hRC := RC16 hR hC
  refine wp_g (n := 1) (pc' := 1) (L' := [some (.ref g), some (.int (iI c))]) (st' := [.ref g]) rfl ?_
  refine wp_getf rfl rfl hg (by omega) rfl ?_
  refine wp_g (n := 1) (pc' := 5) (L' := [some (.ref g), some (.int (iI c))]) (st' := [.int (iI 1), .int (iI C)]) rfl ?_
  refine wp_icmpI rfl rfl (by omega) (by omega) (by omega) (by omega) (fun c1 => ?_) (fun c1 => ?_)
  · have c1 : ((1 : Int) ≤ (C : Int)) := c1
    refine wp_g (n := 2) (pc' := 14) (L' := [some (.ref g), some (.int (iI c))]) (st' := [.ref g, .int (iI c)]) rfl ?_
    refine wp_getf rfl rfl hg (by omega) rfl ?_
    refine wp_rem rfl (by omega) (by omega) (by omega) (by omega) ?_
    refine wp_iret rfl rfl ?_
    refine ⟨congrArg (fun z => some (Value.int (iI z))) ?_, rfl⟩
    (try simp only [Int.natCast_ofNat] at *)
    first | rfl | (split <;> omega) | (repeat (first | rw [if_pos (by omega)] | rw [if_neg (by omega)])) | omega
  · have c1 : (¬ (1 : Int) ≤ (C : Int)) := c1
    refine wp_g (n := 2) (pc' := 18) (L' := [some (.ref g), some (.int (iI c))]) (st' := [.int (iI 0)]) rfl ?_
    refine wp_iret rfl rfl ?_
    refine ⟨congrArg (fun z => some (Value.int (iI z))) ?_, rfl⟩
    (try simp only [Int.natCast_ofNat] at *)
    first | rfl | (split <;> omega) | (repeat (first | rw [if_pos (by omega)] | rw [if_neg (by omega)])) | omega
/-- Grid.isCross -/
theorem m_G_isCross (G : GR h g R C n K S B) (e : Int) (e1 : -2147483648 ≤ e) (e2 : e < 2147483648)  : wp E (k + 1) 34 0 (am_entry [.ref g, .int (iI e)] 3) [] h (aI (if (if 0 ≤ e ∧ e < n then K e.toNat else -1) = 0 ∨ (if 0 ≤ e ∧ e < n then K e.toNat else -1) = 1 then 1 else 0) h) := by
  have G0 := G
  obtain ⟨hg, hk, hs, hb, hgl, hR, hC, hn, hK, hB⟩ := G
  have hRC := RC16 hR hC
  have hKe : -1 ≤ (if 0 ≤ e ∧ e < n then K e.toNat else -1) ∧ (if 0 ≤ e ∧ e < n then K e.toNat else -1) ≤ 3 := by
    split
    · have := hK e.toNat (by omega)
      omega
    · omega
  refine wp_g (n := 2) (pc' := 2) (L' := [some (.ref g), some (.int (iI e)), none]) (st' := [.int (iI e), .ref g]) rfl ?_
  refine wp_cv (As := [.int (iI e)]) (rest := []) rfl rfl hg (by omega) rfl rfl rfl (Nat.le_of_ble_eq_true rfl) (Nat.le_of_ble_eq_true rfl) (m_G_kindOf G0 e (by omega) (by omega)) (fun r1 h1 q1 => ?_)
  obtain ⟨rfl, e1⟩ := q1
  rw [e1]
  show wp _ _ _ _ _ [.int (iI (if 0 ≤ e ∧ e < n then K e.toNat else -1))] _ _
  refine wp_g (n := 2) (pc' := 7) (L' := [some (.ref g), some (.int (iI e)), some (.int (iI (if 0 ≤ e ∧ e < n then K e.toNat else -1)))]) (st' := [.int (iI (if 0 ≤ e ∧ e < n then K e.toNat else -1))]) rfl ?_
  refine wp_ifI rfl rfl (by omega) (by omega) (fun c1 => ?_) (fun c1 => ?_)
  · have c1 : (((if 0 ≤ e ∧ e < n then K e.toNat else -1) : Int) = 0) := c1
    refine wp_g (n := 2) (pc' := 20) (L' := [some (.ref g), some (.int (iI e)), some (.int (iI (if 0 ≤ e ∧ e < n then K e.toNat else -1)))]) (st' := [.int (iI 1)]) rfl ?_
    refine wp_zret rfl rfl (by omega) ?_
    refine ⟨congrArg (fun z => some (Value.int (iI z))) ?_, rfl⟩
    (try simp only [Int.natCast_ofNat] at *)
    first | rfl | (split <;> omega) | (repeat (first | rw [if_pos (by omega)] | rw [if_neg (by omega)])) | omega
  · have c1 : (¬ ((if 0 ≤ e ∧ e < n then K e.toNat else -1) : Int) = 0) := c1
    refine wp_g (n := 2) (pc' := 12) (L' := [some (.ref g), some (.int (iI e)), some (.int (iI (if 0 ≤ e ∧ e < n then K e.toNat else -1)))]) (st' := [.int (iI 1), .int (iI (if 0 ≤ e ∧ e < n then K e.toNat else -1))]) rfl ?_
    refine wp_icmpI rfl rfl (by omega) (by omega) (by omega) (by omega) (fun c2 => ?_) (fun c2 => ?_)
    · have c2 : (¬ ((if 0 ≤ e ∧ e < n then K e.toNat else -1) : Int) = 1) := c2
      refine wp_g (n := 1) (pc' := 20) (L' := [some (.ref g), some (.int (iI e)), some (.int (iI (if 0 ≤ e ∧ e < n then K e.toNat else -1)))]) (st' := [.int (iI 0)]) rfl ?_
      refine wp_zret rfl rfl (by omega) ?_
      refine ⟨congrArg (fun z => some (Value.int (iI z))) ?_, rfl⟩
      (try simp only [Int.natCast_ofNat] at *)
      first | rfl | (split <;> omega) | (repeat (first | rw [if_pos (by omega)] | rw [if_neg (by omega)])) | omega
    · have c2 : (((if 0 ≤ e ∧ e < n then K e.toNat else -1) : Int) = 1) := Classical.not_not.mp c2
      refine wp_g (n := 2) (pc' := 20) (L' := [some (.ref g), some (.int (iI e)), some (.int (iI (if 0 ≤ e ∧ e < n then K e.toNat else -1)))]) (st' := [.int (iI 1)]) rfl ?_
      refine wp_zret rfl rfl (by omega) ?_
      refine ⟨congrArg (fun z => some (Value.int (iI z))) ?_, rfl⟩
      (try simp only [Int.natCast_ofNat] at *)
      first | rfl | (split <;> omega) | (repeat (first | rw [if_pos (by omega)] | rw [if_neg (by omega)])) | omega
/-- Grid.cellOf -/
theorem m_G_cellOf (G : GR h g R C n K S B) (e : Int) (e1 : -2147483648 ≤ e) (e2 : e < 2147483648)  : wp E (k + 1) 35 0 (am_entry [.ref g, .int (iI e)] 2) [] h (aI (if 0 ≤ e ∧ e < n then S e.toNat / 2 else -1) h) := by
  have G0 := G
  obtain ⟨hg, hk, hs, hb, hgl, hR, hC, hn, hK, hB⟩ := G
  have hRC := RC16 hR hC
  have hSe : 0 ≤ e ∧ e < n → 0 ≤ (if 0 ≤ e ∧ e < 24 then S e.toNat else -1) ∧ (if 0 ≤ e ∧ e < 24 then S e.toNat else -1) < 32 ∧ (if 0 ≤ e ∧ e < 24 then S e.toNat else -1) = S e.toNat := by
    intro z
    rw [if_pos (by omega)]
    have := hK e.toNat (by omega)
    omega
  have hHe : (if 0 ≤ e ∧ e < n then 1 else 0) = 0 ∨ (if 0 ≤ e ∧ e < n then 1 else 0) = 1 ∧ 0 ≤ e ∧ e < n := by split <;> omega
  refine wp_g (n := 2) (pc' := 2) (L' := [some (.ref g), some (.int (iI e))]) (st' := [.int (iI e), .ref g]) rfl ?_
  refine wp_cv (As := [.int (iI e)]) (rest := []) rfl rfl hg (by omega) rfl rfl rfl (Nat.le_of_ble_eq_true rfl) (Nat.le_of_ble_eq_true rfl) (m_G_hasEdge G0 e (by omega) (by omega)) (fun r1 h1 q1 => ?_)
  obtain ⟨rfl, e1⟩ := q1
  rw [e1]
  show wp _ _ _ _ _ [.int (iI (if 0 ≤ e ∧ e < n then 1 else 0))] _ _
  refine wp_ifI rfl rfl (by omega) (by omega) (fun c1 => ?_) (fun c1 => ?_)
  · have c1 : (((if 0 ≤ e ∧ e < n then 1 else 0) : Int) = 0) := c1
    refine wp_g (n := 1) (pc' := 22) (L' := [some (.ref g), some (.int (iI e))]) (st' := [.int (iI (-1))]) rfl ?_
    refine wp_iret rfl rfl ?_
    refine ⟨congrArg (fun z => some (Value.int (iI z))) ?_, rfl⟩
    (try have hSe2 := hSe (by omega))
    (repeat (first | rw [if_pos (show 0 ≤ e ∧ e < n by omega)] | rw [if_neg (show ¬ (0 ≤ e ∧ e < n) by omega)]))
    (try omega)
  · have c1 : (¬ ((if 0 ≤ e ∧ e < n then 1 else 0) : Int) = 0) := c1
    refine wp_g (n := 1) (pc' := 9) (L' := [some (.ref g), some (.int (iI e))]) (st' := [.ref g]) rfl ?_
    refine wp_getf rfl rfl hg (by omega) rfl ?_
    refine wp_g (n := 1) (pc' := 13) (L' := [some (.ref g), some (.int (iI e))]) (st' := [.int (iI e), .ref (g + 2)]) rfl ?_
    refine wp_cs (As := [.ref (g + 2), .int (iI e)]) (rest := []) rfl rfl rfl rfl (Nat.le_of_ble_eq_true rfl) (Nat.le_of_ble_eq_true rfl) (m_at hs (by omega) (by omega) e (by omega) (by omega)) (fun r2 h2 q2 => ?_)
    obtain ⟨rfl, e2⟩ := q2
    rw [e2]
    show wp _ _ _ _ _ [.int (iI (if 0 ≤ e ∧ e < 24 then S (e).toNat else -1))] _ _
    refine wp_g (n := 1) (pc' := 17) (L' := [some (.ref g), some (.int (iI e))]) (st' := [.int (iI 1), .int (iI (if 0 ≤ e ∧ e < 24 then S (e).toNat else -1))]) rfl ?_
    refine wp_shr1 rfl (by omega) (by omega) ?_
    refine wp_g (n := 1) (pc' := 22) (L' := [some (.ref g), some (.int (iI e))]) (st' := [.int (iI ((if 0 ≤ e ∧ e < 24 then S (e).toNat else -1) / 2))]) rfl ?_
    refine wp_iret rfl rfl ?_
    refine ⟨congrArg (fun z => some (Value.int (iI z))) ?_, rfl⟩
    (try have hSe2 := hSe (by omega))
    (repeat (first | rw [if_pos (show 0 ≤ e ∧ e < n by omega)] | rw [if_neg (show ¬ (0 ≤ e ∧ e < n) by omega)]))
    (try omega)
/-- Grid.belowOf -/
theorem m_G_belowOf (G : GR h g R C n K S B) (e : Int) (e1 : -2147483648 ≤ e) (e2 : e < 2147483648)  : wp E (k + 1) 36 0 (am_entry [.ref g, .int (iI e)] 2) [] h (aI (if 0 ≤ e ∧ e < n then S e.toNat % 2 else -1) h) := by
  have G0 := G
  obtain ⟨hg, hk, hs, hb, hgl, hR, hC, hn, hK, hB⟩ := G
  have hRC := RC16 hR hC
  have hSe : 0 ≤ e ∧ e < n → 0 ≤ (if 0 ≤ e ∧ e < 24 then S e.toNat else -1) ∧ (if 0 ≤ e ∧ e < 24 then S e.toNat else -1) < 32 ∧ (if 0 ≤ e ∧ e < 24 then S e.toNat else -1) = S e.toNat := by
    intro z
    rw [if_pos (by omega)]
    have := hK e.toNat (by omega)
    omega
  have hHe : (if 0 ≤ e ∧ e < n then 1 else 0) = 0 ∨ (if 0 ≤ e ∧ e < n then 1 else 0) = 1 ∧ 0 ≤ e ∧ e < n := by split <;> omega
  refine wp_g (n := 2) (pc' := 2) (L' := [some (.ref g), some (.int (iI e))]) (st' := [.int (iI e), .ref g]) rfl ?_
  refine wp_cv (As := [.int (iI e)]) (rest := []) rfl rfl hg (by omega) rfl rfl rfl (Nat.le_of_ble_eq_true rfl) (Nat.le_of_ble_eq_true rfl) (m_G_hasEdge G0 e (by omega) (by omega)) (fun r1 h1 q1 => ?_)
  obtain ⟨rfl, e1⟩ := q1
  rw [e1]
  show wp _ _ _ _ _ [.int (iI (if 0 ≤ e ∧ e < n then 1 else 0))] _ _
  refine wp_ifI rfl rfl (by omega) (by omega) (fun c1 => ?_) (fun c1 => ?_)
  · have c1 : (((if 0 ≤ e ∧ e < n then 1 else 0) : Int) = 0) := c1
    refine wp_g (n := 1) (pc' := 22) (L' := [some (.ref g), some (.int (iI e))]) (st' := [.int (iI (-1))]) rfl ?_
    refine wp_iret rfl rfl ?_
    refine ⟨congrArg (fun z => some (Value.int (iI z))) ?_, rfl⟩
    (try have hSe2 := hSe (by omega))
    (repeat (first | rw [if_pos (show 0 ≤ e ∧ e < n by omega)] | rw [if_neg (show ¬ (0 ≤ e ∧ e < n) by omega)]))
    (try omega)
  · have c1 : (¬ ((if 0 ≤ e ∧ e < n then 1 else 0) : Int) = 0) := c1
    refine wp_g (n := 1) (pc' := 9) (L' := [some (.ref g), some (.int (iI e))]) (st' := [.ref g]) rfl ?_
    refine wp_getf rfl rfl hg (by omega) rfl ?_
    refine wp_g (n := 1) (pc' := 13) (L' := [some (.ref g), some (.int (iI e))]) (st' := [.int (iI e), .ref (g + 2)]) rfl ?_
    refine wp_cs (As := [.ref (g + 2), .int (iI e)]) (rest := []) rfl rfl rfl rfl (Nat.le_of_ble_eq_true rfl) (Nat.le_of_ble_eq_true rfl) (m_at hs (by omega) (by omega) e (by omega) (by omega)) (fun r2 h2 q2 => ?_)
    obtain ⟨rfl, e2⟩ := q2
    rw [e2]
    show wp _ _ _ _ _ [.int (iI (if 0 ≤ e ∧ e < 24 then S (e).toNat else -1))] _ _
    refine wp_g (n := 1) (pc' := 17) (L' := [some (.ref g), some (.int (iI e))]) (st' := [.int (iI 1), .int (iI (if 0 ≤ e ∧ e < 24 then S (e).toNat else -1))]) rfl ?_
    refine wp_and1 rfl (by omega) (by omega) ?_
    refine wp_g (n := 1) (pc' := 22) (L' := [some (.ref g), some (.int (iI e))]) (st' := [.int (iI ((if 0 ≤ e ∧ e < 24 then S (e).toNat else -1) % 2))]) rfl ?_
    refine wp_iret rfl rfl ?_
    refine ⟨congrArg (fun z => some (Value.int (iI z))) ?_, rfl⟩
    (try have hSe2 := hSe (by omega))
    (repeat (first | rw [if_pos (show 0 ≤ e ∧ e < n by omega)] | rw [if_neg (show ¬ (0 ≤ e ∧ e < n) by omega)]))
    (try omega)
/-- the edge at a spot -/
def gEA (R C : Int) (B : Nat → Int) (c b : Int) : Int := if (0 ≤ c ∧ c < R * C) ∧ (b = 0 ∨ b = 1) then B (2 * c + b).toNat else -1
theorem gEA_rng {R C n : Int} {B : Nat → Int} (hn : 0 ≤ n) (hB : ∀ s : Nat, (s : Int) < 2 * (R * C) → -1 ≤ B s ∧ B s < n) (c b : Int) : -1 ≤ gEA R C B c b ∧ gEA R C B c b < 1 + n := by
  unfold gEA
  split
  · have := hB (2 * c + b).toNat (by omega)
    omega
  · omega
/-- the edge at a side -/
def gES (R C : Int) (B : Nat → Int) (c s : Int) : Int := if s = 0 then gEA R C B (c - C) 1 else if s = 1 then gEA R C B c 0 else if s = 2 then gEA R C B c 1 else if 0 < c % C then gEA R C B (c - 1) 0 else -1
def gBy (C c s : Int) : Int := if s = 0 then c - C else if s = 1 then c + 1 else if s = 2 then c + C else c - 1
/-- Grid.edgeAt -/
theorem m_G_edgeAt (G : GR h g R C n K S B) (c : Int) (c1 : -2147483648 ≤ c) (c2 : c < 2147483648) (b : Int) (b1 : -2147483648 ≤ b) (b2 : b < 2147483648) (c3 : c < 100000) : wp E (k + 1) 37 0 (am_entry [.ref g, .int (iI c), .int (iI b)] 3) [] h (aI (gEA R C B c b) h) := by
  have G0 := G
  obtain ⟨hg, hk, hs, hb, hgl, hR, hC, hn, hK, hB⟩ := G
  have hRC := RC16 hR hC
  have hHc : (if 0 ≤ c ∧ c < R * C then (1 : Int) else 0) = 0 ∧ ¬ (0 ≤ c ∧ c < R * C) ∨ (if 0 ≤ c ∧ c < R * C then (1 : Int) else 0) = 1 ∧ 0 ≤ c ∧ c < R * C := by split <;> omega
  refine wp_g (n := 2) (pc' := 2) (L' := [some (.ref g), some (.int (iI c)), some (.int (iI b))]) (st' := [.int (iI c), .ref g]) rfl ?_
  refine wp_cv (As := [.int (iI c)]) (rest := []) rfl rfl hg (by omega) rfl rfl rfl (Nat.le_of_ble_eq_true rfl) (Nat.le_of_ble_eq_true rfl) (m_G_hasCell G0 c (by omega) (by omega)) (fun r1 h1 q1 => ?_)
  obtain ⟨rfl, e1⟩ := q1
  rw [e1]
  show wp _ _ _ _ _ [.int (iI (if 0 ≤ c ∧ c < R * C then 1 else 0))] _ _
  refine wp_ifI rfl rfl (by omega) (by omega) (fun c1 => ?_) (fun c1 => ?_)
  · have c1 : (((if 0 ≤ c ∧ c < R * C then 1 else 0) : Int) = 0) := c1
    refine wp_g (n := 1) (pc' := 33) (L' := [some (.ref g), some (.int (iI c)), some (.int (iI b))]) (st' := [.int (iI (-1))]) rfl ?_
    refine wp_iret rfl rfl ?_
    refine ⟨congrArg (fun z => some (Value.int (iI z))) ?_, rfl⟩
    unfold gEA
    first | (rw [if_neg (by omega)]; done) | (rw [if_pos (by omega), if_pos (by omega)])
  · have c1 : (¬ ((if 0 ≤ c ∧ c < R * C then 1 else 0) : Int) = 0) := c1
    refine wp_g (n := 1) (pc' := 9) (L' := [some (.ref g), some (.int (iI c)), some (.int (iI b))]) (st' := [.int (iI b)]) rfl ?_
    refine wp_ifI rfl rfl (by omega) (by omega) (fun c2 => ?_) (fun c2 => ?_)
    · have c2 : ((b : Int) = 0) := c2
      refine wp_g (n := 1) (pc' := 18) (L' := [some (.ref g), some (.int (iI c)), some (.int (iI b))]) (st' := [.ref g]) rfl ?_
      refine wp_getf rfl rfl hg (by omega) rfl ?_
      refine wp_g (n := 2) (pc' := 23) (L' := [some (.ref g), some (.int (iI c)), some (.int (iI b))]) (st' := [.int (iI c), .int (iI 2), .ref (g + 3)]) rfl ?_
      refine wp_mul rfl ?_
      refine wp_g (n := 1) (pc' := 25) (L' := [some (.ref g), some (.int (iI c)), some (.int (iI b))]) (st' := [.int (iI b), .int (iI (2 * c)), .ref (g + 3)]) rfl ?_
      refine wp_add rfl ?_
      refine wp_cs (As := [.ref (g + 3), .int (iI ((2 * c) + b))]) (rest := []) rfl rfl rfl rfl (Nat.le_of_ble_eq_true rfl) (Nat.le_of_ble_eq_true rfl) (m_at hb (by omega) (by omega) ((2 * c) + b) (by omega) (by omega)) (fun r2 h2 q2 => ?_)
      obtain ⟨rfl, e2⟩ := q2
      rw [e2]
      show wp _ _ _ _ _ [.int (iI (if 0 ≤ ((2 * c) + b) ∧ ((2 * c) + b) < 32 then B (((2 * c) + b)).toNat else -1))] _ _
      refine wp_g (n := 1) (pc' := 33) (L' := [some (.ref g), some (.int (iI c)), some (.int (iI b))]) (st' := [.int (iI (if 0 ≤ ((2 * c) + b) ∧ ((2 * c) + b) < 32 then B (((2 * c) + b)).toNat else -1))]) rfl ?_
      refine wp_iret rfl rfl ?_
      refine ⟨congrArg (fun z => some (Value.int (iI z))) ?_, rfl⟩
      unfold gEA
      first | (rw [if_neg (by omega)]; done) | (rw [if_pos (by omega), if_pos (by omega)])
    · have c2 : (¬ (b : Int) = 0) := c2
      refine wp_g (n := 2) (pc' := 14) (L' := [some (.ref g), some (.int (iI c)), some (.int (iI b))]) (st' := [.int (iI 1), .int (iI b)]) rfl ?_
      refine wp_icmpI rfl rfl (by omega) (by omega) (by omega) (by omega) (fun c3 => ?_) (fun c3 => ?_)
      · have c3 : (¬ (b : Int) = 1) := c3
        refine wp_g (n := 1) (pc' := 33) (L' := [some (.ref g), some (.int (iI c)), some (.int (iI b))]) (st' := [.int (iI (-1))]) rfl ?_
        refine wp_iret rfl rfl ?_
        refine ⟨congrArg (fun z => some (Value.int (iI z))) ?_, rfl⟩
        unfold gEA
        first | (rw [if_neg (by omega)]; done) | (rw [if_pos (by omega), if_pos (by omega)])
      · have c3 : ((b : Int) = 1) := Classical.not_not.mp c3
        refine wp_g (n := 1) (pc' := 18) (L' := [some (.ref g), some (.int (iI c)), some (.int (iI b))]) (st' := [.ref g]) rfl ?_
        refine wp_getf rfl rfl hg (by omega) rfl ?_
        refine wp_g (n := 2) (pc' := 23) (L' := [some (.ref g), some (.int (iI c)), some (.int (iI b))]) (st' := [.int (iI c), .int (iI 2), .ref (g + 3)]) rfl ?_
        refine wp_mul rfl ?_
        refine wp_g (n := 1) (pc' := 25) (L' := [some (.ref g), some (.int (iI c)), some (.int (iI b))]) (st' := [.int (iI b), .int (iI (2 * c)), .ref (g + 3)]) rfl ?_
        refine wp_add rfl ?_
        refine wp_cs (As := [.ref (g + 3), .int (iI ((2 * c) + b))]) (rest := []) rfl rfl rfl rfl (Nat.le_of_ble_eq_true rfl) (Nat.le_of_ble_eq_true rfl) (m_at hb (by omega) (by omega) ((2 * c) + b) (by omega) (by omega)) (fun r3 h3 q3 => ?_)
        obtain ⟨rfl, e3⟩ := q3
        rw [e3]
        show wp _ _ _ _ _ [.int (iI (if 0 ≤ ((2 * c) + b) ∧ ((2 * c) + b) < 32 then B (((2 * c) + b)).toNat else -1))] _ _
        refine wp_g (n := 1) (pc' := 33) (L' := [some (.ref g), some (.int (iI c)), some (.int (iI b))]) (st' := [.int (iI (if 0 ≤ ((2 * c) + b) ∧ ((2 * c) + b) < 32 then B (((2 * c) + b)).toNat else -1))]) rfl ?_
        refine wp_iret rfl rfl ?_
        refine ⟨congrArg (fun z => some (Value.int (iI z))) ?_, rfl⟩
        unfold gEA
        first | (rw [if_neg (by omega)]; done) | (rw [if_pos (by omega), if_pos (by omega)])
/-- Grid.edgeOnSide -/
theorem m_G_edgeOnSide (G : GR h g R C n K S B) (c : Int) (c1 : -2147483648 ≤ c) (c2 : c < 2147483648) (s : Int) (s1 : -2147483648 ≤ s) (s2 : s < 2147483648) (c0 : 0 ≤ c) (c3 : c < 1000) (c4 : 1 ≤ C) : wp E (k + 2) 38 0 (am_entry [.ref g, .int (iI c), .int (iI s)] 3) [] h (aI (gES R C B c s) h) := by
  have G0 := G
  obtain ⟨hg, hk, hs, hb, hgl, hR, hC, hn, hK, hB⟩ := G
  have hRC := RC16 hR hC
  have hcol : (if C < 1 then (0 : Int) else c % C) = c % C := if_neg (by omega)
  have hcm : 0 ≤ c % C ∧ c % C < C := ⟨Int.emod_nonneg c (by omega), Int.emod_lt_of_pos c (by omega)⟩
  refine wp_g (n := 1) (pc' := 1) (L' := [some (.ref g), some (.int (iI c)), some (.int (iI s))]) (st' := [.int (iI s)]) rfl ?_
  by_cases c1 : s = 0
  · refine wp_tswI rfl (by omega) (by omega) 0 (by omega) rfl rfl ?_
    refine wp_g (n := 3) (pc' := 31) (L' := [some (.ref g), some (.int (iI c)), some (.int (iI s))]) (st' := [.ref g, .int (iI c), .ref g]) rfl ?_
    refine wp_getf rfl rfl hg (by omega) rfl ?_
    refine wp_sub rfl ?_
    refine wp_g (n := 1) (pc' := 36) (L' := [some (.ref g), some (.int (iI c)), some (.int (iI s))]) (st' := [.int (iI 1), .int (iI (c - C)), .ref g]) rfl ?_
    refine wp_cv (As := [.int (iI (c - C)), .int (iI 1)]) (rest := []) rfl rfl hg (by omega) rfl rfl rfl (Nat.le_of_ble_eq_true rfl) (Nat.le_of_ble_eq_true rfl) (m_G_edgeAt G0 (c - C) (by omega) (by omega) 1 (by omega) (by omega) (by omega)) (fun r1 h1 q1 => ?_)
    obtain ⟨rfl, e1⟩ := q1
    rw [e1]
    show wp _ _ _ _ _ [.int (iI (gEA R C B (c - C) 1))] _ _
    refine wp_iret rfl rfl ?_
    refine ⟨congrArg (fun z => some (Value.int (iI z))) ?_, rfl⟩
    unfold gES
    (try subst_vars)
    (repeat (first | rw [if_pos (by omega)] | rw [if_neg (by omega)]))
  by_cases c2 : s = 1
  · refine wp_tswI rfl (by omega) (by omega) 1 (by omega) rfl rfl ?_
    refine wp_g (n := 3) (pc' := 43) (L' := [some (.ref g), some (.int (iI c)), some (.int (iI s))]) (st' := [.int (iI 0), .int (iI c), .ref g]) rfl ?_
    refine wp_cv (As := [.int (iI c), .int (iI 0)]) (rest := []) rfl rfl hg (by omega) rfl rfl rfl (Nat.le_of_ble_eq_true rfl) (Nat.le_of_ble_eq_true rfl) (m_G_edgeAt G0 c (by omega) (by omega) 0 (by omega) (by omega) (by omega)) (fun r2 h2 q2 => ?_)
    obtain ⟨rfl, e2⟩ := q2
    rw [e2]
    show wp _ _ _ _ _ [.int (iI (gEA R C B c 0))] _ _
    refine wp_iret rfl rfl ?_
    refine ⟨congrArg (fun z => some (Value.int (iI z))) ?_, rfl⟩
    unfold gES
    (try subst_vars)
    (repeat (first | rw [if_pos (by omega)] | rw [if_neg (by omega)]))
  by_cases c3 : s = 2
  · refine wp_tswI rfl (by omega) (by omega) 2 (by omega) rfl rfl ?_
    refine wp_g (n := 3) (pc' := 50) (L' := [some (.ref g), some (.int (iI c)), some (.int (iI s))]) (st' := [.int (iI 1), .int (iI c), .ref g]) rfl ?_
    refine wp_cv (As := [.int (iI c), .int (iI 1)]) (rest := []) rfl rfl hg (by omega) rfl rfl rfl (Nat.le_of_ble_eq_true rfl) (Nat.le_of_ble_eq_true rfl) (m_G_edgeAt G0 c (by omega) (by omega) 1 (by omega) (by omega) (by omega)) (fun r3 h3 q3 => ?_)
    obtain ⟨rfl, e3⟩ := q3
    rw [e3]
    show wp _ _ _ _ _ [.int (iI (gEA R C B c 1))] _ _
    refine wp_iret rfl rfl ?_
    refine ⟨congrArg (fun z => some (Value.int (iI z))) ?_, rfl⟩
    unfold gES
    (try subst_vars)
    (repeat (first | rw [if_pos (by omega)] | rw [if_neg (by omega)]))
  · refine wp_tswO rfl (by omega) (by omega) (by omega) rfl ?_
    refine wp_g (n := 2) (pc' := 56) (L' := [some (.ref g), some (.int (iI c)), some (.int (iI s))]) (st' := [.int (iI c), .ref g]) rfl ?_
    refine wp_cv (As := [.int (iI c)]) (rest := []) rfl rfl hg (by omega) rfl rfl rfl (Nat.le_of_ble_eq_true rfl) (Nat.le_of_ble_eq_true rfl) (m_G_columnOf G0 c (by omega) (by omega) (by omega)) (fun r4 h4 q4 => ?_)
    obtain ⟨rfl, e4⟩ := q4
    rw [e4]
    show wp _ _ _ _ _ [.int (iI (if C < 1 then 0 else c % C))] _ _
    refine wp_ifI rfl rfl (by omega) (by omega) (fun c4 => ?_) (fun c4 => ?_)
    · have c4 : (((if C < 1 then 0 else c % C) : Int) ≤ 0) := c4
      refine wp_g (n := 1) (pc' := 74) (L' := [some (.ref g), some (.int (iI c)), some (.int (iI s))]) (st' := [.int (iI (-1))]) rfl ?_
      refine wp_iret rfl rfl ?_
      refine ⟨congrArg (fun z => some (Value.int (iI z))) ?_, rfl⟩
      unfold gES
      (try subst_vars)
      (repeat (first | rw [if_pos (by omega)] | rw [if_neg (by omega)]))
    · have c4 : (¬ ((if C < 1 then 0 else c % C) : Int) ≤ 0) := c4
      refine wp_g (n := 3) (pc' := 65) (L' := [some (.ref g), some (.int (iI c)), some (.int (iI s))]) (st' := [.int (iI 1), .int (iI c), .ref g]) rfl ?_
      refine wp_sub rfl ?_
      refine wp_g (n := 1) (pc' := 67) (L' := [some (.ref g), some (.int (iI c)), some (.int (iI s))]) (st' := [.int (iI 0), .int (iI (c - 1)), .ref g]) rfl ?_
      refine wp_cv (As := [.int (iI (c - 1)), .int (iI 0)]) (rest := []) rfl rfl hg (by omega) rfl rfl rfl (Nat.le_of_ble_eq_true rfl) (Nat.le_of_ble_eq_true rfl) (m_G_edgeAt G0 (c - 1) (by omega) (by omega) 0 (by omega) (by omega) (by omega)) (fun r5 h5 q5 => ?_)
      obtain ⟨rfl, e5⟩ := q5
      rw [e5]
      show wp _ _ _ _ _ [.int (iI (gEA R C B (c - 1) 0))] _ _
      refine wp_g (n := 1) (pc' := 74) (L' := [some (.ref g), some (.int (iI c)), some (.int (iI s))]) (st' := [.int (iI (gEA R C B (c - 1) 0))]) rfl ?_
      refine wp_iret rfl rfl ?_
      refine ⟨congrArg (fun z => some (Value.int (iI z))) ?_, rfl⟩
      unfold gES
      (try subst_vars)
      (repeat (first | rw [if_pos (by omega)] | rw [if_neg (by omega)]))
/-- Grid.cellBeyond -/
theorem m_G_cellBeyond (G : GR h g R C n K S B) (c : Int) (c1 : -2147483648 ≤ c) (c2 : c < 2147483648) (s : Int) (s1 : -2147483648 ≤ s) (s2 : s < 2147483648)  : wp E k 39 0 (am_entry [.ref g, .int (iI c), .int (iI s)] 3) [] h (aI (gBy C c s) h) := by
  have G0 := G
  obtain ⟨hg, hk, hs, hb, hgl, hR, hC, hn, hK, hB⟩ := G
  have hRC := RC16 hR hC
  refine wp_g (n := 1) (pc' := 1) (L' := [some (.ref g), some (.int (iI c)), some (.int (iI s))]) (st' := [.int (iI s)]) rfl ?_
  by_cases c1 : s = 0
  · refine wp_tswI rfl (by omega) (by omega) 0 (by omega) rfl rfl ?_
    refine wp_g (n := 2) (pc' := 30) (L' := [some (.ref g), some (.int (iI c)), some (.int (iI s))]) (st' := [.ref g, .int (iI c)]) rfl ?_
    refine wp_getf rfl rfl hg (by omega) rfl ?_
    refine wp_sub rfl ?_
    refine wp_iret rfl rfl ?_
    refine ⟨congrArg (fun z => some (Value.int (iI z))) ?_, rfl⟩
    unfold gBy
    (repeat (first | rw [if_pos (by omega)] | rw [if_neg (by omega)]))
  by_cases c2 : s = 1
  · refine wp_tswI rfl (by omega) (by omega) 1 (by omega) rfl rfl ?_
    refine wp_g (n := 2) (pc' := 37) (L' := [some (.ref g), some (.int (iI c)), some (.int (iI s))]) (st' := [.int (iI 1), .int (iI c)]) rfl ?_
    refine wp_add rfl ?_
    refine wp_iret rfl rfl ?_
    refine ⟨congrArg (fun z => some (Value.int (iI z))) ?_, rfl⟩
    unfold gBy
    (repeat (first | rw [if_pos (by omega)] | rw [if_neg (by omega)]))
  by_cases c3 : s = 2
  · refine wp_tswI rfl (by omega) (by omega) 2 (by omega) rfl rfl ?_
    refine wp_g (n := 2) (pc' := 41) (L' := [some (.ref g), some (.int (iI c)), some (.int (iI s))]) (st' := [.ref g, .int (iI c)]) rfl ?_
    refine wp_getf rfl rfl hg (by omega) rfl ?_
    refine wp_add rfl ?_
    refine wp_iret rfl rfl ?_
    refine ⟨congrArg (fun z => some (Value.int (iI z))) ?_, rfl⟩
    unfold gBy
    (repeat (first | rw [if_pos (by omega)] | rw [if_neg (by omega)]))
  · refine wp_tswO rfl (by omega) (by omega) (by omega) rfl ?_
    refine wp_g (n := 2) (pc' := 48) (L' := [some (.ref g), some (.int (iI c)), some (.int (iI s))]) (st' := [.int (iI 1), .int (iI c)]) rfl ?_
    refine wp_sub rfl ?_
    refine wp_iret rfl rfl ?_
    refine ⟨congrArg (fun z => some (Value.int (iI z))) ?_, rfl⟩
    unfold gBy
    (repeat (first | rw [if_pos (by omega)] | rw [if_neg (by omega)]))
/-- Grid.howMany, its loop -/
theorem m_G_howMany_l (G : GR h g R C n K S B) (d : Int) (d1 : -2147483648 ≤ d) (d2 : d < 2147483648) : ∀ (m j : Nat), n.toNat - j = m → (j : Int) ≤ n → wp E (k + 1) 40 4 [some (.ref g), some (.int (iI d)), some (.int (iI (cnt K d j))), some (.int (iI (j : Int)))] [] h (aI (cnt K d n.toNat) h)
  | m, j, hm, hj => by
    have ih : ∀ j' : Nat, n.toNat - j' < m → (j' : Int) ≤ n → wp E (k + 1) 40 4 [some (.ref g), some (.int (iI d)), some (.int (iI (cnt K d j'))), some (.int (iI (j' : Int)))] [] h (aI (cnt K d n.toNat) h) := fun j' h1 h2 => m_G_howMany_l G d d1 d2 (n.toNat - j') j' rfl h2
    have G0 := G
    obtain ⟨hg, hk, hs, hb, hgl, hR, hC, hn, hK, hB⟩ := G
    have hRC := RC16 hR hC
    have hct := cnt_rng K d j
    have hkj : (j : Int) < n → (if 0 ≤ (j : Int) ∧ (j : Int) < n then K (j : Int).toNat else -1) = K j := fun z => by rw [if_pos (by omega), Int.toNat_natCast]
    have hkr : (j : Int) < n → 0 ≤ K j ∧ K j ≤ 3 := fun z => (hK j z).1
    refine wp_g (n := 2) (pc' := 6) (L' := [some (.ref g), some (.int (iI d)), some (.int (iI (cnt K d j))), some (.int (iI (j : Int)))]) (st' := [.ref g, .int (iI (j : Int))]) rfl ?_
    refine wp_getf rfl rfl hg (by omega) rfl ?_
    refine wp_icmpI rfl rfl (by omega) (by omega) (by omega) (by omega) (fun c1 => ?_) (fun c1 => ?_)
    · have c1 : ((n : Int) ≤ ((j : Int) : Int)) := c1
      refine wp_g (n := 1) (pc' := 31) (L' := [some (.ref g), some (.int (iI d)), some (.int (iI (cnt K d j))), some (.int (iI (j : Int)))]) (st' := [.int (iI (cnt K d j))]) rfl ?_
      refine wp_iret rfl rfl ?_
      refine ⟨congrArg (fun z => some (Value.int (iI z))) ?_, rfl⟩
      rw [show j = n.toNat by omega]
    · have c1 : (¬ (n : Int) ≤ ((j : Int) : Int)) := c1
      refine wp_g (n := 2) (pc' := 14) (L' := [some (.ref g), some (.int (iI d)), some (.int (iI (cnt K d j))), some (.int (iI (j : Int)))]) (st' := [.int (iI (j : Int)), .ref g]) rfl ?_
      refine wp_cv (As := [.int (iI (j : Int))]) (rest := []) rfl rfl hg (by omega) rfl rfl rfl (Nat.le_of_ble_eq_true rfl) (Nat.le_of_ble_eq_true rfl) (m_G_kindOf G0 (j : Int) (by omega) (by omega)) (fun r1 h1 q1 => ?_)
      obtain ⟨rfl, e1⟩ := q1
      rw [e1]
      show wp _ _ _ _ _ [.int (iI (if 0 ≤ (j : Int) ∧ (j : Int) < n then K (j : Int).toNat else -1))] _ _
      refine wp_g (n := 1) (pc' := 18) (L' := [some (.ref g), some (.int (iI d)), some (.int (iI (cnt K d j))), some (.int (iI (j : Int)))]) (st' := [.int (iI d), .int (iI (if 0 ≤ (j : Int) ∧ (j : Int) < n then K (j : Int).toNat else -1))]) rfl ?_
      refine wp_icmpI rfl rfl (by omega) (by omega) (by omega) (by omega) (fun c2 => ?_) (fun c2 => ?_)
      · have c2 : (¬ ((if 0 ≤ (j : Int) ∧ (j : Int) < n then K (j : Int).toNat else -1) : Int) = d) := c2
        refine wp_iinc (L' := [some (.ref g), some (.int (iI d)), some (.int (iI (cnt K d j))), some (.int (iI ((j : Int) + 1)))]) rfl rfl rfl ?_
        refine wp_g (n := 1) (pc' := 4) (L' := [some (.ref g), some (.int (iI d)), some (.int (iI (cnt K d j))), some (.int (iI ((j : Int) + 1)))]) (st' := []) rfl ?_
        refine wp_L (ih (j + 1) (by omega) (by omega)) ?_
        have e1 : cnt K d (j + 1) = (cnt K d j) := by
          simp only [cnt]
          rw [hkj (by omega)] at c2
          first | rw [if_pos (by omega)] | (rw [if_neg (by omega)]; omega)
        rw [e1, Int.natCast_add]
        rfl
      · have c2 : (((if 0 ≤ (j : Int) ∧ (j : Int) < n then K (j : Int).toNat else -1) : Int) = d) := Classical.not_not.mp c2
        refine wp_iinc (L' := [some (.ref g), some (.int (iI d)), some (.int (iI ((cnt K d j) + 1))), some (.int (iI (j : Int)))]) rfl rfl rfl ?_
        refine wp_iinc (L' := [some (.ref g), some (.int (iI d)), some (.int (iI ((cnt K d j) + 1))), some (.int (iI ((j : Int) + 1)))]) rfl rfl rfl ?_
        refine wp_g (n := 1) (pc' := 4) (L' := [some (.ref g), some (.int (iI d)), some (.int (iI ((cnt K d j) + 1))), some (.int (iI ((j : Int) + 1)))]) (st' := []) rfl ?_
        refine wp_L (ih (j + 1) (by omega) (by omega)) ?_
        have e1 : cnt K d (j + 1) = ((cnt K d j) + 1) := by
          simp only [cnt]
          rw [hkj (by omega)] at c2
          first | rw [if_pos (by omega)] | (rw [if_neg (by omega)]; omega)
        rw [e1, Int.natCast_add]
        rfl
  termination_by m => m
/-- Grid.howMany -/
theorem m_G_howMany (G : GR h g R C n K S B) (d : Int) (d1 : -2147483648 ≤ d) (d2 : d < 2147483648)  : wp E (k + 1) 40 0 (am_entry [.ref g, .int (iI d)] 4) [] h (aI (cnt K d n.toNat) h) := by
  have G0 := G
  obtain ⟨hg, hk, hs, hb, hgl, hR, hC, hn, hK, hB⟩ := G
  have hRC := RC16 hR hC
  refine wp_g (n := 4) (pc' := 4) (L' := [some (.ref g), some (.int (iI d)), some (.int (iI 0)), some (.int (iI 0))]) (st' := []) rfl ?_
  exact wp_L (m_G_howMany_l G0 d d1 d2 n.toNat 0 rfl (by omega)) rfl
/-- Grid.crosses -/
theorem m_G_crosses (G : GR h g R C n K S B)   : wp E (k + 2) 41 0 (am_entry [.ref g] 1) [] h (aI (cnt K 0 n.toNat + cnt K 1 n.toNat) h) := by
  have G0 := G
  obtain ⟨hg, hk, hs, hb, hgl, hR, hC, hn, hK, hB⟩ := G
  have hRC := RC16 hR hC
  refine wp_g (n := 2) (pc' := 2) (L' := [some (.ref g)]) (st' := [.int (iI 0), .ref g]) rfl ?_
  refine wp_cv (As := [.int (iI 0)]) (rest := []) rfl rfl hg (by omega) rfl rfl rfl (Nat.le_of_ble_eq_true rfl) (Nat.le_of_ble_eq_true rfl) (m_G_howMany G0 0 (by omega) (by omega)) (fun r1 h1 q1 => ?_)
  obtain ⟨rfl, e1⟩ := q1
  rw [e1]
  show wp _ _ _ _ _ [.int (iI (cnt K 0 n.toNat))] _ _
  refine wp_g (n := 2) (pc' := 7) (L' := [some (.ref g)]) (st' := [.int (iI 1), .ref g, .int (iI (cnt K 0 n.toNat))]) rfl ?_
  refine wp_cv (As := [.int (iI 1)]) (rest := [.int (iI (cnt K 0 n.toNat))]) rfl rfl hg (by omega) rfl rfl rfl (Nat.le_of_ble_eq_true rfl) (Nat.le_of_ble_eq_true rfl) (m_G_howMany G0 1 (by omega) (by omega)) (fun r2 h2 q2 => ?_)
  obtain ⟨rfl, e2⟩ := q2
  rw [e2]
  show wp _ _ _ _ _ [.int (iI (cnt K 1 n.toNat)), .int (iI (cnt K 0 n.toNat))] _ _
  refine wp_add rfl ?_
  refine wp_iret rfl rfl ?_
  refine ⟨congrArg (fun z => some (Value.int (iI z))) ?_, rfl⟩
  (try simp only [Int.natCast_ofNat] at *)
  first | rfl | (split <;> omega) | (repeat (first | rw [if_pos (by omega)] | rw [if_neg (by omega)])) | omega
end GRD
