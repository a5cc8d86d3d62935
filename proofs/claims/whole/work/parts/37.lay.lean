section LAY
variable {E : am_E} {k : Nat}
/-- Grid.number -/
theorem m_G_number {h : am_H} {g : Nat} {R C n : Int} {K S B : Nat → Int} (G : GC h g R C n K S B) (n1 : 0 ≤ n) (n2 : n < 24) (s : Int) (s1 : 0 ≤ s) (s2 : s < 32) : wp E (k + 1) 24 0 (am_entry [.ref g, .int (iI s)] 2) [] h (fun r h1 => r = none ∧ FG h h1 g ∧ GC h1 g R C (n + 1) K (up S n.toNat s) (up B s.toNat n)) := by
  obtain ⟨hg, hk, hs, hb, hgl⟩ := G
  refine wp_g (n := 1) (pc' := 1) (L' := [some (.ref g), some (.int (iI s))]) (st' := [.ref g]) rfl ?_
  refine wp_getf rfl rfl hg (by omega) rfl ?_
  refine wp_g (n := 1) (pc' := 5) (L' := [some (.ref g), some (.int (iI s))]) (st' := [.ref g, .ref (g + 2)]) rfl ?_
  refine wp_getf rfl rfl hg (by omega) rfl ?_
  refine wp_g (n := 1) (pc' := 9) (L' := [some (.ref g), some (.int (iI s))]) (st' := [.int (iI s), .int (iI n), .ref (g + 2)]) rfl ?_
  refine wp_cs (As := [.ref (g + 2), .int (iI n), .int (iI s)]) (rest := []) rfl rfl rfl rfl (Nat.le_of_ble_eq_true rfl) (Nat.le_of_ble_eq_true rfl) (m_put hs (by omega) (by omega) n s (by omega) (by omega)) (fun r1 h1 q1 => ?_)
  obtain ⟨rfl, hl1, hz1, hf1⟩ := q1
  have hg := (hf1 _ (by omega)).trans hg
  have hk := (hf1 _ (by omega)).trans hk
  have hb := (hf1 _ (by omega)).trans hb
  have hs : h1[(g + 2)]? = some (cI 24 (if 0 ≤ (n : Int) ∧ n < (24 : Nat) then up S (n).toNat s else S)) := hz1
  show wp _ _ _ _ _ [] _ _
  refine wp_g (n := 1) (pc' := 13) (L' := [some (.ref g), some (.int (iI s))]) (st' := [.ref g]) rfl ?_
  refine wp_getf rfl rfl hg (by omega) rfl ?_
  refine wp_g (n := 2) (pc' := 18) (L' := [some (.ref g), some (.int (iI s))]) (st' := [.ref g, .int (iI s), .ref (g + 3)]) rfl ?_
  refine wp_getf rfl rfl hg (by omega) rfl ?_
  refine wp_cs (As := [.ref (g + 3), .int (iI s), .int (iI n)]) (rest := []) rfl rfl rfl rfl (Nat.le_of_ble_eq_true rfl) (Nat.le_of_ble_eq_true rfl) (m_put hb (by omega) (by omega) s n (by omega) (by omega)) (fun r2 h2 q2 => ?_)
  obtain ⟨rfl, hl2, hz2, hf2⟩ := q2
  have hg := (hf2 _ (by omega)).trans hg
  have hk := (hf2 _ (by omega)).trans hk
  have hs := (hf2 _ (by omega)).trans hs
  have hb : h2[(g + 3)]? = some (cI 32 (if 0 ≤ (s : Int) ∧ s < (32 : Nat) then up B (s).toNat n else B)) := hz2
  show wp _ _ _ _ _ [] _ _
  refine wp_g (n := 2) (pc' := 26) (L' := [some (.ref g), some (.int (iI s))]) (st' := [.ref g, .ref g]) rfl ?_
  refine wp_getf rfl rfl hg (by omega) rfl ?_
  refine wp_g (n := 1) (pc' := 30) (L' := [some (.ref g), some (.int (iI s))]) (st' := [.int (iI 1), .int (iI n), .ref g]) rfl ?_
  refine wp_add rfl ?_
  refine wp_putI rfl rfl hg (Nat.le_of_ble_eq_true rfl) rfl (fun h3 hl3 hz3 hf3 => ?_)
  have hk := (hf3 _ (by omega)).trans hk
  have hs := (hf3 _ (by omega)).trans hs
  have hb := (hf3 _ (by omega)).trans hb
  have hg : h3[g]? = some (cO 3 [.int (iI R), .int (iI C), .int (iI (n + 1)), .ref (g + 1), .ref (g + 2), .ref (g + 3)]) := hz3
  refine wp_vret rfl rfl ?_
  refine ⟨rfl, ?_, ?_⟩
  · refine ⟨hl3.trans (hl2.trans hl1), fun b hb2 => ?_⟩
    rw [hf3 b (by omega), hf2 b (by omega), hf1 b (by omega)]
  · rw [if_pos (by omega)] at hs hb
    exact ⟨hg, hk, hs, hb, hgl⟩
/-- the spots of a cell's edges; of the first m cells -/
def spf (R C c : Nat) : List Nat := (if c % C + 1 < C then [2 * c] else []) ++ (if c / C + 1 < R then [2 * c + 1] else [])
def spl (R C m : Nat) : List Nat := (List.range m).flatMap (spf R C)
theorem spl_succ (R C m : Nat) : spl R C (m + 1) = spl R C m ++ spf R C m := by
  unfold spl
  rw [List.range_succ, List.flatMap_append]
  simp
theorem spl_lt {R C : Nat} : ∀ {m s : Nat}, s ∈ spl R C m → s < 2 * m := by
  intro m s hs
  obtain ⟨c, hc, h⟩ := List.mem_flatMap.mp hs
  have hc := List.mem_range.mp hc
  unfold spf at h
  rcases List.mem_append.mp h with z | z
  · split at z
    · have := List.mem_singleton.mp z; omega
    · cases z
  · split at z
    · have := List.mem_singleton.mp z; omega
    · cases z
theorem spl_len : ∀ R, R ≤ 4 → ∀ C, C ≤ 4 → ∀ m, m ≤ R * C → (spl R C m).length ≤ 24 ∧ (spl R C (R * C)).length ≤ 24 := by decide
/-- spots and edges by spot, of a list of spots -/
def LSp (l : List Nat) (n : Int) (S B : Nat → Int) : Prop := n = l.length ∧ (∀ e : Nat, e < l.length → S e = l.getD e 0) ∧ ∀ s : Nat, s < 32 → B s = if s ∈ l then (l.idxOf s : Int) else -1
theorem LSp.add {l : List Nat} {n : Int} {S B : Nat → Int} (h : LSp l n S B) {s : Nat} (hs : s ∉ l) : LSp (l ++ [s]) (n + 1) (up S n.toNat (s : Int)) (up B (s : Int).toNat n) := by
  obtain ⟨h1, h2, h3⟩ := h
  subst h1
  rw [Int.toNat_natCast, Int.toNat_natCast]
  refine ⟨by rw [List.length_append]; rfl, fun e he => ?_, fun s' hs' => ?_⟩
  · rw [List.length_append, List.length_singleton] at he
    by_cases q : e = l.length
    · subst q
      simp [up]
    · have q2 : e < l.length := by omega
      simp only [up, if_neg q]
      rw [h2 e q2, List.getD_eq_getElem?_getD, List.getD_eq_getElem?_getD, List.getElem?_append_left q2]
  · by_cases q : s' = s
    · subst q
      simp only [up, if_true]
      rw [if_pos (by simp), List.idxOf_append, if_neg hs]
      simp
    · simp only [up, if_neg q]
      rw [h3 s' hs']
      by_cases z : s' ∈ l
      · rw [if_pos z, if_pos (List.mem_append_left _ z), List.idxOf_append, if_pos z]
      · rw [if_neg z, if_neg (by simp [z, q])]
theorem m_G_numberL {h : am_H} {g : Nat} {R C n : Int} {K S B : Nat → Int} {l : List Nat} (G : GC h g R C n K S B) (hL : LSp l n S B) (hl : l.length < 24) (s : Int) (sn : Nat) (hs0 : s = (sn : Int)) (hs : sn < 32) (hn : sn ∉ l) : wp E (k + 1) 24 0 (am_entry [.ref g, .int (iI s)] 2) [] h (fun r h1 => r = none ∧ FG h h1 g ∧ ∃ n1 S1 B1, GC h1 g R C n1 K S1 B1 ∧ LSp (l ++ [sn]) n1 S1 B1) := by
  subst hs0
  have h1 := hL.1
  exact (m_G_number G (by omega) (by omega) (sn : Int) (by omega) (by omega)).mono (fun r h1 q => ⟨q.1, q.2.1, _, _, _, q.2.2, hL.add hn⟩)
/-- Grid.lay, the loop over columns -/
theorem m_G_lay_in {g R C i : Nat} {K : Nat → Int} {ra rb rf : Int} {Q : Option Value → am_H → Prop} {h0 : am_H} (hR : R ≤ 4) (hC : C ≤ 4) (hi : i < R)
    (kk : ∀ (h1 : am_H) (n1 : Int) (S1 B1 : Nat → Int) (x6 : Option Value), FG h0 h1 g → GC h1 g R C n1 K S1 B1 → LSp (spl R C (i * C + C)) n1 S1 B1 → wp E (k + 2) 23 151 [some (.ref g), some (.int (iI ra)), some (.int (iI rb)), some (.int (iI rf)), some (.int (iI (i : Int))), some (.int (iI (C : Int))), x6] [] h1 Q) :
    ∀ (m j : Nat) (h : am_H) (n : Int) (S B : Nat → Int) (x6 : Option Value), C - j = m → j ≤ C → GC h g R C n K S B → LSp (spl R C (i * C + j)) n S B → FG h0 h g → wp E (k + 2) 23 86 [some (.ref g), some (.int (iI ra)), some (.int (iI rb)), some (.int (iI rf)), some (.int (iI (i : Int))), some (.int (iI (j : Int))), x6] [] h Q
  | m, j, h, n, S, B, x6, hm, hj, G, hL, hFF => by
    have ih : ∀ (j' : Nat) (h' : am_H) (n' : Int) (S' B' : Nat → Int) (x6' : Option Value), C - j' < m → j' ≤ C → GC h' g R C n' K S' B' → LSp (spl R C (i * C + j')) n' S' B' → FG h0 h' g → wp E (k + 2) 23 86 [some (.ref g), some (.int (iI ra)), some (.int (iI rb)), some (.int (iI rf)), some (.int (iI (i : Int))), some (.int (iI (j' : Int))), x6'] [] h' Q := fun j' h' n' S' B' x6' h1 h2 h3 h4 h5 => m_G_lay_in hR hC hi kk (C - j') j' h' n' S' B' x6' rfl h2 h3 h4 h5
    obtain ⟨hg, -, -, -, hgl⟩ := id G
    have hRC : R * C ≤ 16 := Nat.mul_le_mul hR hC
    have hin : j < C → i * C + j < R * C ∧ (i * C + j) % C = j ∧ (i * C + j) / C = i ∧ (j + 1 < C → (spl R C (i * C + j)).length < 24) ∧ (¬ j + 1 < C → i + 1 < R → (spl R C (i * C + j)).length < 24) ∧ (j + 1 < C → i + 1 < R → (spl R C (i * C + j)).length + 1 < 24) := by
      intro z
      have h1 : (i + 1) * C ≤ R * C := Nat.mul_le_mul_right C (by omega)
      rw [Nat.succ_mul] at h1
      have hm : (i * C + j) % C = j := by rw [Nat.mul_comm, Nat.mul_add_mod, Nat.mod_eq_of_lt z]
      have hdv : (i * C + j) / C = i := by rw [Nat.mul_comm, Nat.mul_add_div (by omega), Nat.div_eq_of_lt z]; rfl
      have hlen := (spl_len R hR C hC (i * C + j + 1) (by omega)).1
      rw [spl_succ, List.length_append, spf, hm, hdv, List.length_append] at hlen
      refine ⟨by omega, hm, hdv, fun q => ?_, fun q q2 => ?_, fun q q2 => ?_⟩
      · rw [if_pos q] at hlen
        simp only [List.length_singleton] at hlen
        omega
      · rw [if_pos q2] at hlen
        simp only [List.length_singleton] at hlen
        omega
      · rw [if_pos q, if_pos q2] at hlen
        simp only [List.length_singleton] at hlen
        omega
    have hnin2 : 2 * (i * C + j) + 1 ∉ spl R C (i * C + j) := fun z => absurd (spl_lt z) (by omega)
    have hnin3 : 2 * (i * C + j) + 1 ∉ spl R C (i * C + j) ++ [2 * (i * C + j)] := fun z => by
      rcases List.mem_append.mp z with q | q
      · exact hnin2 q
      · have := List.mem_singleton.mp q; omega
    have hnin1 : 2 * (i * C + j) ∉ spl R C (i * C + j) := fun z => absurd (spl_lt z) (Nat.lt_irrefl _)
    refine wp_g (n := 2) (pc' := 89) (L' := [some (.ref g), some (.int (iI ra)), some (.int (iI rb)), some (.int (iI rf)), some (.int (iI (i : Int))), some (.int (iI (j : Int))), x6]) (st' := [.ref g, .int (iI (j : Int))]) rfl ?_
    refine wp_getf rfl rfl hg (by omega) rfl ?_
    refine wp_icmpI rfl rfl (by omega) (by omega) (by omega) (by omega) (fun c1 => ?_) (fun c1 => ?_)
    · have c1 : (((C : Int) : Int) ≤ ((j : Int) : Int)) := c1
      have hjC : j = C := by omega
      subst hjC
      exact kk h n S B x6 hFF G hL
    · have c1 : (¬ ((C : Int) : Int) ≤ ((j : Int) : Int)) := c1
      obtain ⟨hcell, hmod, hdiv, hl1, hl2, hl3⟩ := hin (by omega)
      refine wp_g (n := 3) (pc' := 99) (L' := [some (.ref g), some (.int (iI ra)), some (.int (iI rb)), some (.int (iI rf)), some (.int (iI (i : Int))), some (.int (iI (j : Int))), x6]) (st' := [.ref g, .int (iI (i : Int)), .int (iI 2)]) rfl ?_
      refine wp_getf rfl rfl hg (by omega) rfl ?_
      refine wp_mul rfl ?_
      refine wp_g (n := 1) (pc' := 105) (L' := [some (.ref g), some (.int (iI ra)), some (.int (iI rb)), some (.int (iI rf)), some (.int (iI (i : Int))), some (.int (iI (j : Int))), x6]) (st' := [.int (iI (j : Int)), .int (iI ((i : Int) * (C : Int))), .int (iI 2)]) rfl ?_
      refine wp_add rfl ?_
      refine wp_mul rfl ?_
      refine wp_g (n := 3) (pc' := 112) (L' := [some (.ref g), some (.int (iI ra)), some (.int (iI rb)), some (.int (iI rf)), some (.int (iI (i : Int))), some (.int (iI (j : Int))), some (.int (iI (2 * (((i : Int) * (C : Int)) + (j : Int)))))]) (st' := [.int (iI 1), .int (iI (j : Int))]) rfl ?_
      refine wp_add rfl ?_
      refine wp_g (n := 1) (pc' := 114) (L' := [some (.ref g), some (.int (iI ra)), some (.int (iI rb)), some (.int (iI rf)), some (.int (iI (i : Int))), some (.int (iI (j : Int))), some (.int (iI (2 * (((i : Int) * (C : Int)) + (j : Int)))))]) (st' := [.ref g, .int (iI ((j : Int) + 1))]) rfl ?_
      refine wp_getf rfl rfl hg (by omega) rfl ?_
      refine wp_icmpI rfl rfl (by omega) (by omega) (by omega) (by omega) (fun c2 => ?_) (fun c2 => ?_)
      · have c2 : (((C : Int) : Int) ≤ (((j : Int) + 1) : Int)) := c2
        refine wp_g (n := 2) (pc' := 129) (L' := [some (.ref g), some (.int (iI ra)), some (.int (iI rb)), some (.int (iI rf)), some (.int (iI (i : Int))), some (.int (iI (j : Int))), some (.int (iI (2 * (((i : Int) * (C : Int)) + (j : Int)))))]) (st' := [.int (iI 1), .int (iI (i : Int))]) rfl ?_
        refine wp_add rfl ?_
        refine wp_g (n := 1) (pc' := 131) (L' := [some (.ref g), some (.int (iI ra)), some (.int (iI rb)), some (.int (iI rf)), some (.int (iI (i : Int))), some (.int (iI (j : Int))), some (.int (iI (2 * (((i : Int) * (C : Int)) + (j : Int)))))]) (st' := [.ref g, .int (iI ((i : Int) + 1))]) rfl ?_
        refine wp_getf rfl rfl hg (by omega) rfl ?_
        refine wp_icmpI rfl rfl (by omega) (by omega) (by omega) (by omega) (fun c3 => ?_) (fun c3 => ?_)
        · have c3 : (((R : Int) : Int) ≤ (((i : Int) + 1) : Int)) := c3
          refine wp_iinc (L' := [some (.ref g), some (.int (iI ra)), some (.int (iI rb)), some (.int (iI rf)), some (.int (iI (i : Int))), some (.int (iI ((j : Int) + 1))), some (.int (iI (2 * (((i : Int) * (C : Int)) + (j : Int)))))]) rfl rfl rfl ?_
          refine wp_g (n := 1) (pc' := 86) (L' := [some (.ref g), some (.int (iI ra)), some (.int (iI rb)), some (.int (iI rf)), some (.int (iI (i : Int))), some (.int (iI ((j : Int) + 1))), some (.int (iI (2 * (((i : Int) * (C : Int)) + (j : Int)))))]) (st' := []) rfl ?_
          refine wp_L (ih (j + 1) _ _ _ _ (some (.int (iI (2 * (((i : Int) * (C : Int)) + (j : Int)))))) (by omega) (by omega) G ?_ hFF) (by rw [Int.natCast_add]; rfl)
          rw [show i * C + (j + 1) = i * C + j + 1 by omega, spl_succ, spf, hmod, hdiv]
          (repeat (first | rw [if_pos (by omega)] | rw [if_neg (by omega)]))
          first | exact hL | (simp only [List.append_nil, List.nil_append]; exact hL) | (rw [← List.append_assoc]; exact hL)
        · have c3 : (¬ ((R : Int) : Int) ≤ (((i : Int) + 1) : Int)) := c3
          refine wp_g (n := 3) (pc' := 141) (L' := [some (.ref g), some (.int (iI ra)), some (.int (iI rb)), some (.int (iI rf)), some (.int (iI (i : Int))), some (.int (iI (j : Int))), some (.int (iI (2 * (((i : Int) * (C : Int)) + (j : Int)))))]) (st' := [.int (iI 1), .int (iI (2 * (((i : Int) * (C : Int)) + (j : Int)))), .ref g]) rfl ?_
          refine wp_add rfl ?_
          refine wp_cv (As := [.int (iI ((2 * (((i : Int) * (C : Int)) + (j : Int))) + 1))]) (rest := []) rfl rfl hg (by omega) rfl rfl rfl (Nat.le_of_ble_eq_true rfl) (Nat.le_of_ble_eq_true rfl) (m_G_numberL G hL (by first | exact hl2 (by omega) (by omega) | (rw [List.length_append]; exact hl3 (by omega) (by omega))) ((2 * (((i : Int) * (C : Int)) + (j : Int))) + 1) (2 * (i * C + j) + 1) (by simp) (by omega) (by first | exact hnin2 | exact hnin3)) (fun r1 h1 q1 => ?_)
          obtain ⟨rfl, hF1, n, S, B, G, hL⟩ := q1
          have hFF := hFF.tr hF1
          obtain ⟨hg, -, -, -, hgl⟩ := id G
          show wp _ _ _ _ _ [] _ _
          refine wp_iinc (L' := [some (.ref g), some (.int (iI ra)), some (.int (iI rb)), some (.int (iI rf)), some (.int (iI (i : Int))), some (.int (iI ((j : Int) + 1))), some (.int (iI (2 * (((i : Int) * (C : Int)) + (j : Int)))))]) rfl rfl rfl ?_
          refine wp_g (n := 1) (pc' := 86) (L' := [some (.ref g), some (.int (iI ra)), some (.int (iI rb)), some (.int (iI rf)), some (.int (iI (i : Int))), some (.int (iI ((j : Int) + 1))), some (.int (iI (2 * (((i : Int) * (C : Int)) + (j : Int)))))]) (st' := []) rfl ?_
          refine wp_L (ih (j + 1) _ _ _ _ (some (.int (iI (2 * (((i : Int) * (C : Int)) + (j : Int)))))) (by omega) (by omega) G ?_ hFF) (by rw [Int.natCast_add]; rfl)
          rw [show i * C + (j + 1) = i * C + j + 1 by omega, spl_succ, spf, hmod, hdiv]
          (repeat (first | rw [if_pos (by omega)] | rw [if_neg (by omega)]))
          first | exact hL | (simp only [List.append_nil, List.nil_append]; exact hL) | (rw [← List.append_assoc]; exact hL)
      · have c2 : (¬ ((C : Int) : Int) ≤ (((j : Int) + 1) : Int)) := c2
        refine wp_g (n := 2) (pc' := 123) (L' := [some (.ref g), some (.int (iI ra)), some (.int (iI rb)), some (.int (iI rf)), some (.int (iI (i : Int))), some (.int (iI (j : Int))), some (.int (iI (2 * (((i : Int) * (C : Int)) + (j : Int)))))]) (st' := [.int (iI (2 * (((i : Int) * (C : Int)) + (j : Int)))), .ref g]) rfl ?_
        refine wp_cv (As := [.int (iI (2 * (((i : Int) * (C : Int)) + (j : Int))))]) (rest := []) rfl rfl hg (by omega) rfl rfl rfl (Nat.le_of_ble_eq_true rfl) (Nat.le_of_ble_eq_true rfl) (m_G_numberL G hL (hl1 (by omega)) (2 * (((i : Int) * (C : Int)) + (j : Int))) (2 * (i * C + j)) (by simp) (by omega) hnin1) (fun r2 h2 q2 => ?_)
        obtain ⟨rfl, hF2, n, S, B, G, hL⟩ := q2
        have hFF := hFF.tr hF2
        obtain ⟨hg, -, -, -, hgl⟩ := id G
        show wp _ _ _ _ _ [] _ _
        refine wp_g (n := 2) (pc' := 129) (L' := [some (.ref g), some (.int (iI ra)), some (.int (iI rb)), some (.int (iI rf)), some (.int (iI (i : Int))), some (.int (iI (j : Int))), some (.int (iI (2 * (((i : Int) * (C : Int)) + (j : Int)))))]) (st' := [.int (iI 1), .int (iI (i : Int))]) rfl ?_
        refine wp_add rfl ?_
        refine wp_g (n := 1) (pc' := 131) (L' := [some (.ref g), some (.int (iI ra)), some (.int (iI rb)), some (.int (iI rf)), some (.int (iI (i : Int))), some (.int (iI (j : Int))), some (.int (iI (2 * (((i : Int) * (C : Int)) + (j : Int)))))]) (st' := [.ref g, .int (iI ((i : Int) + 1))]) rfl ?_
        refine wp_getf rfl rfl hg (by omega) rfl ?_
        refine wp_icmpI rfl rfl (by omega) (by omega) (by omega) (by omega) (fun c4 => ?_) (fun c4 => ?_)
        · have c4 : (((R : Int) : Int) ≤ (((i : Int) + 1) : Int)) := c4
          refine wp_iinc (L' := [some (.ref g), some (.int (iI ra)), some (.int (iI rb)), some (.int (iI rf)), some (.int (iI (i : Int))), some (.int (iI ((j : Int) + 1))), some (.int (iI (2 * (((i : Int) * (C : Int)) + (j : Int)))))]) rfl rfl rfl ?_
          refine wp_g (n := 1) (pc' := 86) (L' := [some (.ref g), some (.int (iI ra)), some (.int (iI rb)), some (.int (iI rf)), some (.int (iI (i : Int))), some (.int (iI ((j : Int) + 1))), some (.int (iI (2 * (((i : Int) * (C : Int)) + (j : Int)))))]) (st' := []) rfl ?_
          refine wp_L (ih (j + 1) _ _ _ _ (some (.int (iI (2 * (((i : Int) * (C : Int)) + (j : Int)))))) (by omega) (by omega) G ?_ hFF) (by rw [Int.natCast_add]; rfl)
          rw [show i * C + (j + 1) = i * C + j + 1 by omega, spl_succ, spf, hmod, hdiv]
          (repeat (first | rw [if_pos (by omega)] | rw [if_neg (by omega)]))
          first | exact hL | (simp only [List.append_nil, List.nil_append]; exact hL) | (rw [← List.append_assoc]; exact hL)
        · have c4 : (¬ ((R : Int) : Int) ≤ (((i : Int) + 1) : Int)) := c4
          refine wp_g (n := 3) (pc' := 141) (L' := [some (.ref g), some (.int (iI ra)), some (.int (iI rb)), some (.int (iI rf)), some (.int (iI (i : Int))), some (.int (iI (j : Int))), some (.int (iI (2 * (((i : Int) * (C : Int)) + (j : Int)))))]) (st' := [.int (iI 1), .int (iI (2 * (((i : Int) * (C : Int)) + (j : Int)))), .ref g]) rfl ?_
          refine wp_add rfl ?_
          refine wp_cv (As := [.int (iI ((2 * (((i : Int) * (C : Int)) + (j : Int))) + 1))]) (rest := []) rfl rfl hg (by omega) rfl rfl rfl (Nat.le_of_ble_eq_true rfl) (Nat.le_of_ble_eq_true rfl) (m_G_numberL G hL (by first | exact hl2 (by omega) (by omega) | (rw [List.length_append]; exact hl3 (by omega) (by omega))) ((2 * (((i : Int) * (C : Int)) + (j : Int))) + 1) (2 * (i * C + j) + 1) (by simp) (by omega) (by first | exact hnin2 | exact hnin3)) (fun r3 h3 q3 => ?_)
          obtain ⟨rfl, hF3, n, S, B, G, hL⟩ := q3
          have hFF := hFF.tr hF3
          obtain ⟨hg, -, -, -, hgl⟩ := id G
          show wp _ _ _ _ _ [] _ _
          refine wp_iinc (L' := [some (.ref g), some (.int (iI ra)), some (.int (iI rb)), some (.int (iI rf)), some (.int (iI (i : Int))), some (.int (iI ((j : Int) + 1))), some (.int (iI (2 * (((i : Int) * (C : Int)) + (j : Int)))))]) rfl rfl rfl ?_
          refine wp_g (n := 1) (pc' := 86) (L' := [some (.ref g), some (.int (iI ra)), some (.int (iI rb)), some (.int (iI rf)), some (.int (iI (i : Int))), some (.int (iI ((j : Int) + 1))), some (.int (iI (2 * (((i : Int) * (C : Int)) + (j : Int)))))]) (st' := []) rfl ?_
          refine wp_L (ih (j + 1) _ _ _ _ (some (.int (iI (2 * (((i : Int) * (C : Int)) + (j : Int)))))) (by omega) (by omega) G ?_ hFF) (by rw [Int.natCast_add]; rfl)
          rw [show i * C + (j + 1) = i * C + j + 1 by omega, spl_succ, spf, hmod, hdiv]
          (repeat (first | rw [if_pos (by omega)] | rw [if_neg (by omega)]))
          first | exact hL | (simp only [List.append_nil, List.nil_append]; exact hL) | (rw [← List.append_assoc]; exact hL)
  termination_by m => m
/-- Grid.lay, the loop over rows -/
theorem m_G_lay_out {g R C : Nat} {K : Nat → Int} {ra rb rf : Int} {h0 : am_H} (hR : R ≤ 4) (hC : C ≤ 4) :
    ∀ (m i : Nat) (h : am_H) (n : Int) (S B : Nat → Int) (x5 x6 : Option Value), R - i = m → i ≤ R → GC h g R C n K S B → LSp (spl R C (i * C)) n S B → FG h0 h g → wp E (k + 2) 23 74 [some (.ref g), some (.int (iI ra)), some (.int (iI rb)), some (.int (iI rf)), some (.int (iI (i : Int))), x5, x6] [] h (fun q h1 => q = none ∧ FG h0 h1 g ∧ ∃ n1 S1 B1, GC h1 g R C n1 K S1 B1 ∧ LSp (spl R C (R * C)) n1 S1 B1)
  | m, i, h, n, S, B, x5, x6, hm, hi, G, hL, hFF => by
    have ih : ∀ (i' : Nat) (h' : am_H) (n' : Int) (S' B' : Nat → Int) (x5' x6' : Option Value), R - i' < m → i' ≤ R → GC h' g R C n' K S' B' → LSp (spl R C (i' * C)) n' S' B' → FG h0 h' g → wp E (k + 2) 23 74 [some (.ref g), some (.int (iI ra)), some (.int (iI rb)), some (.int (iI rf)), some (.int (iI (i' : Int))), x5', x6'] [] h' (fun q h1 => q = none ∧ FG h0 h1 g ∧ ∃ n1 S1 B1, GC h1 g R C n1 K S1 B1 ∧ LSp (spl R C (R * C)) n1 S1 B1) := fun i' h' n' S' B' x5' x6' h1 h2 h3 h4 h5 => m_G_lay_out hR hC (R - i') i' h' n' S' B' x5' x6' rfl h2 h3 h4 h5
    obtain ⟨hg, -, -, -, hgl⟩ := id G
    refine wp_g (n := 2) (pc' := 77) (L' := [some (.ref g), some (.int (iI ra)), some (.int (iI rb)), some (.int (iI rf)), some (.int (iI (i : Int))), x5, x6]) (st' := [.ref g, .int (iI (i : Int))]) rfl ?_
    refine wp_getf rfl rfl hg (by omega) rfl ?_
    refine wp_icmpI rfl rfl (by omega) (by omega) (by omega) (by omega) (fun c1 => ?_) (fun c1 => ?_)
    · have c1 : (((R : Int) : Int) ≤ ((i : Int) : Int)) := c1
      refine wp_vret rfl rfl ?_
      have hiR : i = R := by omega
      subst hiR
      exact ⟨rfl, hFF, n, S, B, G, hL⟩
    · have c1 : (¬ ((R : Int) : Int) ≤ ((i : Int) : Int)) := c1
      refine wp_g (n := 2) (pc' := 86) (L' := [some (.ref g), some (.int (iI ra)), some (.int (iI rb)), some (.int (iI rf)), some (.int (iI (i : Int))), some (.int (iI 0)), x6]) (st' := []) rfl ?_
      refine wp_L (m_G_lay_in (h0 := h0) hR hC (by omega) (fun h n S B x6 hFF G hL => ?_) C 0 h n S B x6 rfl (by omega) G (by rw [Nat.add_zero]; exact hL) hFF) rfl
      refine wp_iinc (L' := [some (.ref g), some (.int (iI ra)), some (.int (iI rb)), some (.int (iI rf)), some (.int (iI ((i : Int) + 1))), some (.int (iI (C : Int))), x6]) rfl rfl rfl ?_
      refine wp_g (n := 1) (pc' := 74) (L' := [some (.ref g), some (.int (iI ra)), some (.int (iI rb)), some (.int (iI rf)), some (.int (iI ((i : Int) + 1))), some (.int (iI (C : Int))), x6]) (st' := []) rfl ?_
      refine wp_L (ih (i + 1) _ _ _ _ _ _ (by omega) (by omega) G ?_ hFF) (by rw [Int.natCast_add]; rfl)
      rw [Nat.succ_mul]
      exact hL
  termination_by m => m
/-- Grid.lay, behind its first two fields -/
theorem m_G_lay_2 {g R C : Nat} {n ra rb rf : Int} {K S B : Nat → Int} {h : am_H} (hR : R ≤ 4) (hC : C ≤ 4) (G : GC h g R C n K S B) : wp E (k + 2) 23 50 [some (.ref g), some (.int (iI ra)), some (.int (iI rb)), some (.int (iI rf)), none, none, none] [] h (fun q h1 => q = none ∧ FG h h1 g ∧ ∃ K1 n1 S1 B1, GC h1 g R C n1 K1 S1 B1 ∧ LSp (spl R C (R * C)) n1 S1 B1 ∧ ∀ j, j < 24 → K1 j = 0) := by
  obtain ⟨hg, hk, hs, hb, hgl⟩ := G
  refine wp_g (n := 2) (pc' := 52) (L' := [some (.ref g), some (.int (iI ra)), some (.int (iI rb)), some (.int (iI rf)), none, none, none]) (st' := [.int (iI 0), .ref g]) rfl ?_
  refine wp_putI rfl rfl hg (Nat.le_of_ble_eq_true rfl) rfl (fun h1 hl1 hz1 hf1 => ?_)
  have hk := (hf1 _ (by omega)).trans hk
  have hs := (hf1 _ (by omega)).trans hs
  have hb := (hf1 _ (by omega)).trans hb
  have hg : h1[g]? = some (cO 3 [.int (iI (R : Int)), .int (iI (C : Int)), .int (iI 0), .ref (g + 1), .ref (g + 2), .ref (g + 3)]) := hz1
  refine wp_g (n := 1) (pc' := 56) (L' := [some (.ref g), some (.int (iI ra)), some (.int (iI rb)), some (.int (iI rf)), none, none, none]) (st' := [.ref g]) rfl ?_
  refine wp_getf rfl rfl hg (by omega) rfl ?_
  refine wp_g (n := 1) (pc' := 60) (L' := [some (.ref g), some (.int (iI ra)), some (.int (iI rb)), some (.int (iI rf)), none, none, none]) (st' := [.int (iI 0), .ref (g + 1)]) rfl ?_
  refine wp_cs (As := [.ref (g + 1), .int (iI 0)]) (rest := []) rfl rfl rfl rfl (Nat.le_of_ble_eq_true rfl) (Nat.le_of_ble_eq_true rfl) (m_fill hk (by omega) (by omega) 0) (fun r2 h2 q2 => ?_)
  obtain ⟨rfl, hl2, ⟨F2, hz2, hv2⟩, hf2⟩ := q2
  have hg := (hf2 _ (by omega)).trans hg
  have hs := (hf2 _ (by omega)).trans hs
  have hb := (hf2 _ (by omega)).trans hb
  have hk : h2[(g + 1)]? = some (cI 24 F2) := hz2
  show wp _ _ _ _ _ [] _ _
  refine wp_g (n := 1) (pc' := 64) (L' := [some (.ref g), some (.int (iI ra)), some (.int (iI rb)), some (.int (iI rf)), none, none, none]) (st' := [.ref g]) rfl ?_
  refine wp_getf rfl rfl hg (by omega) rfl ?_
  refine wp_g (n := 1) (pc' := 68) (L' := [some (.ref g), some (.int (iI ra)), some (.int (iI rb)), some (.int (iI rf)), none, none, none]) (st' := [.int (iI (-1)), .ref (g + 3)]) rfl ?_
  refine wp_cs (As := [.ref (g + 3), .int (iI (-1))]) (rest := []) rfl rfl rfl rfl (Nat.le_of_ble_eq_true rfl) (Nat.le_of_ble_eq_true rfl) (m_fill hb (by omega) (by omega) (-1)) (fun r3 h3 q3 => ?_)
  obtain ⟨rfl, hl3, ⟨F3, hz3, hv3⟩, hf3⟩ := q3
  have hg := (hf3 _ (by omega)).trans hg
  have hk := (hf3 _ (by omega)).trans hk
  have hs := (hf3 _ (by omega)).trans hs
  have hb : h3[(g + 3)]? = some (cI 32 F3) := hz3
  show wp _ _ _ _ _ [] _ _
  refine wp_g (n := 2) (pc' := 74) (L' := [some (.ref g), some (.int (iI ra)), some (.int (iI rb)), some (.int (iI rf)), some (.int (iI 0)), none, none]) (st' := []) rfl ?_
  refine (wp_L (m_G_lay_out (h0 := h) (K := F2) hR hC R 0 _ 0 S F3 none none rfl (by omega) ⟨hg, hk, hs, hb, hgl⟩ ⟨?_, fun e he => ?_, fun s hs2 => ?_⟩ ⟨?_, fun b hb2 => ?_⟩) rfl).mono (fun q h1 z => ⟨z.1, z.2.1, F2, z.2.2.choose, z.2.2.choose_spec.choose, z.2.2.choose_spec.choose_spec.choose, z.2.2.choose_spec.choose_spec.choose_spec.1, z.2.2.choose_spec.choose_spec.choose_spec.2, fun j hj => hv2 j hj⟩)
  · simp [spl]
  · simp [spl] at he
  · rw [hv3 s hs2]
    simp [spl]
  · rw [hl3, hl2, hl1]
  · rw [hf3 b (by omega), hf2 b (by omega), hf1 b (by omega)]
def layR (r c : Int) : Nat := if 0 < r ∧ r ≤ 4 ∧ 0 < c ∧ c ≤ 4 then r.toNat else 0
def layC (r c : Int) : Nat := if 0 < r ∧ r ≤ 4 ∧ 0 < c ∧ c ≤ 4 then c.toNat else 0
theorem layR_le (r c : Int) : layR r c ≤ 4 := by unfold layR; split <;> omega
theorem layC_le (r c : Int) : layC r c ≤ 4 := by unfold layC; split <;> omega
/-- Grid.lay -/
theorem m_G_lay {g : Nat} {R C n : Int} {K S B : Nat → Int} {h : am_H} (G : GC h g R C n K S B) (r c : Int) (r1 : -2147483648 ≤ r) (r2 : r < 2147483648) (c1 : -2147483648 ≤ c) (c2 : c < 2147483648) : wp E (k + 2) 23 0 (am_entry [.ref g, .int (iI r), .int (iI c)] 7) [] h (fun q h1 => q = none ∧ FG h h1 g ∧ ∃ K1 n1 S1 B1, GC h1 g (layR r c) (layC r c) n1 K1 S1 B1 ∧ LSp (spl (layR r c) (layC r c) (layR r c * layC r c)) n1 S1 B1 ∧ ∀ j, j < 24 → K1 j = 0) := by
  obtain ⟨hg, hk, hs, hb, hgl⟩ := G
  refine wp_g (n := 1) (pc' := 1) (L' := [some (.ref g), some (.int (iI r)), some (.int (iI c)), none, none, none, none]) (st' := [.int (iI r)]) rfl ?_
  refine wp_ifI rfl rfl (by omega) (by omega) (fun c1 => ?_) (fun c1 => ?_)
  · have c1 : ((r : Int) ≤ 0) := c1
    refine wp_g (n := 4) (pc' := 26) (L' := [some (.ref g), some (.int (iI r)), some (.int (iI c)), some (.int (iI 0)), none, none, none]) (st' := [.int (iI 0), .ref g]) rfl ?_
    refine wp_g (n := 1) (pc' := 33) (L' := [some (.ref g), some (.int (iI r)), some (.int (iI c)), some (.int (iI 0)), none, none, none]) (st' := [.ref g]) rfl ?_
    refine wp_g (n := 1) (pc' := 34) (L' := [some (.ref g), some (.int (iI r)), some (.int (iI c)), some (.int (iI 0)), none, none, none]) (st' := [.int (iI 0), .ref g]) rfl ?_
    refine wp_putI rfl rfl hg (Nat.le_of_ble_eq_true rfl) rfl (fun h1 hl1 hz1 hf1 => ?_)
    have hk := (hf1 _ (by omega)).trans hk
    have hs := (hf1 _ (by omega)).trans hs
    have hb := (hf1 _ (by omega)).trans hb
    have hg : h1[g]? = some (cO 3 [.int (iI 0), .int (iI C), .int (iI n), .ref (g + 1), .ref (g + 2), .ref (g + 3)]) := hz1
    refine wp_g (n := 2) (pc' := 39) (L' := [some (.ref g), some (.int (iI r)), some (.int (iI c)), some (.int (iI 0)), none, none, none]) (st' := [.int (iI 0), .ref g]) rfl ?_
    refine wp_g (n := 1) (pc' := 46) (L' := [some (.ref g), some (.int (iI r)), some (.int (iI c)), some (.int (iI 0)), none, none, none]) (st' := [.ref g]) rfl ?_
    refine wp_g (n := 1) (pc' := 47) (L' := [some (.ref g), some (.int (iI r)), some (.int (iI c)), some (.int (iI 0)), none, none, none]) (st' := [.int (iI 0), .ref g]) rfl ?_
    refine wp_putI rfl rfl hg (Nat.le_of_ble_eq_true rfl) rfl (fun h2 hl2 hz2 hf2 => ?_)
    have hk := (hf2 _ (by omega)).trans hk
    have hs := (hf2 _ (by omega)).trans hs
    have hb := (hf2 _ (by omega)).trans hb
    have hg : h2[g]? = some (cO 3 [.int (iI 0), .int (iI 0), .int (iI n), .ref (g + 1), .ref (g + 2), .ref (g + 3)]) := hz2
    have eR : ((layR r c : Nat) : Int) = 0 := by
      unfold layR
      rw [if_neg (by omega)]
      omega
    have eC : ((layC r c : Nat) : Int) = 0 := by
      unfold layC
      rw [if_neg (by omega)]
      omega
    have hg2 : h2[g]? = some (cO 3 [.int (iI ((layR r c : Nat) : Int)), .int (iI ((layC r c : Nat) : Int)), .int (iI n), .ref (g + 1), .ref (g + 2), .ref (g + 3)]) := by rw [eR, eC]; exact hg
    refine (m_G_lay_2 (layR_le r c) (layC_le r c) ⟨hg2, hk, hs, hb, hgl⟩).mono (fun q h9 z => ⟨z.1, ⟨?_, ?_⟩, z.2.2⟩)
    · rw [z.2.1.1, hl2, hl1]
    · intro b hb2
      rw [z.2.1.2 b hb2, hf2 b (by omega), hf1 b (by omega)]
  · have c1 : (¬ (r : Int) ≤ 0) := c1
    refine wp_g (n := 2) (pc' := 6) (L' := [some (.ref g), some (.int (iI r)), some (.int (iI c)), none, none, none, none]) (st' := [.int (iI 4), .int (iI r)]) rfl ?_
    refine wp_icmpI rfl rfl (by omega) (by omega) (by omega) (by omega) (fun c2 => ?_) (fun c2 => ?_)
    · have c2 : ((4 : Int) < (r : Int)) := c2
      refine wp_g (n := 4) (pc' := 26) (L' := [some (.ref g), some (.int (iI r)), some (.int (iI c)), some (.int (iI 0)), none, none, none]) (st' := [.int (iI 0), .ref g]) rfl ?_
      refine wp_g (n := 1) (pc' := 33) (L' := [some (.ref g), some (.int (iI r)), some (.int (iI c)), some (.int (iI 0)), none, none, none]) (st' := [.ref g]) rfl ?_
      refine wp_g (n := 1) (pc' := 34) (L' := [some (.ref g), some (.int (iI r)), some (.int (iI c)), some (.int (iI 0)), none, none, none]) (st' := [.int (iI 0), .ref g]) rfl ?_
      refine wp_putI rfl rfl hg (Nat.le_of_ble_eq_true rfl) rfl (fun h3 hl3 hz3 hf3 => ?_)
      have hk := (hf3 _ (by omega)).trans hk
      have hs := (hf3 _ (by omega)).trans hs
      have hb := (hf3 _ (by omega)).trans hb
      have hg : h3[g]? = some (cO 3 [.int (iI 0), .int (iI C), .int (iI n), .ref (g + 1), .ref (g + 2), .ref (g + 3)]) := hz3
      refine wp_g (n := 2) (pc' := 39) (L' := [some (.ref g), some (.int (iI r)), some (.int (iI c)), some (.int (iI 0)), none, none, none]) (st' := [.int (iI 0), .ref g]) rfl ?_
      refine wp_g (n := 1) (pc' := 46) (L' := [some (.ref g), some (.int (iI r)), some (.int (iI c)), some (.int (iI 0)), none, none, none]) (st' := [.ref g]) rfl ?_
      refine wp_g (n := 1) (pc' := 47) (L' := [some (.ref g), some (.int (iI r)), some (.int (iI c)), some (.int (iI 0)), none, none, none]) (st' := [.int (iI 0), .ref g]) rfl ?_
      refine wp_putI rfl rfl hg (Nat.le_of_ble_eq_true rfl) rfl (fun h4 hl4 hz4 hf4 => ?_)
      have hk := (hf4 _ (by omega)).trans hk
      have hs := (hf4 _ (by omega)).trans hs
      have hb := (hf4 _ (by omega)).trans hb
      have hg : h4[g]? = some (cO 3 [.int (iI 0), .int (iI 0), .int (iI n), .ref (g + 1), .ref (g + 2), .ref (g + 3)]) := hz4
      have eR : ((layR r c : Nat) : Int) = 0 := by
        unfold layR
        rw [if_neg (by omega)]
        omega
      have eC : ((layC r c : Nat) : Int) = 0 := by
        unfold layC
        rw [if_neg (by omega)]
        omega
      have hg2 : h4[g]? = some (cO 3 [.int (iI ((layR r c : Nat) : Int)), .int (iI ((layC r c : Nat) : Int)), .int (iI n), .ref (g + 1), .ref (g + 2), .ref (g + 3)]) := by rw [eR, eC]; exact hg
      refine (m_G_lay_2 (layR_le r c) (layC_le r c) ⟨hg2, hk, hs, hb, hgl⟩).mono (fun q h9 z => ⟨z.1, ⟨?_, ?_⟩, z.2.2⟩)
      · rw [z.2.1.1, hl4, hl3]
      · intro b hb2
        rw [z.2.1.2 b hb2, hf4 b (by omega), hf3 b (by omega)]
    · have c2 : (¬ (4 : Int) < (r : Int)) := c2
      refine wp_g (n := 1) (pc' := 10) (L' := [some (.ref g), some (.int (iI r)), some (.int (iI c)), none, none, none, none]) (st' := [.int (iI c)]) rfl ?_
      refine wp_ifI rfl rfl (by omega) (by omega) (fun c3 => ?_) (fun c3 => ?_)
      · have c3 : ((c : Int) ≤ 0) := c3
        refine wp_g (n := 4) (pc' := 26) (L' := [some (.ref g), some (.int (iI r)), some (.int (iI c)), some (.int (iI 0)), none, none, none]) (st' := [.int (iI 0), .ref g]) rfl ?_
        refine wp_g (n := 1) (pc' := 33) (L' := [some (.ref g), some (.int (iI r)), some (.int (iI c)), some (.int (iI 0)), none, none, none]) (st' := [.ref g]) rfl ?_
        refine wp_g (n := 1) (pc' := 34) (L' := [some (.ref g), some (.int (iI r)), some (.int (iI c)), some (.int (iI 0)), none, none, none]) (st' := [.int (iI 0), .ref g]) rfl ?_
        refine wp_putI rfl rfl hg (Nat.le_of_ble_eq_true rfl) rfl (fun h5 hl5 hz5 hf5 => ?_)
        have hk := (hf5 _ (by omega)).trans hk
        have hs := (hf5 _ (by omega)).trans hs
        have hb := (hf5 _ (by omega)).trans hb
        have hg : h5[g]? = some (cO 3 [.int (iI 0), .int (iI C), .int (iI n), .ref (g + 1), .ref (g + 2), .ref (g + 3)]) := hz5
        refine wp_g (n := 2) (pc' := 39) (L' := [some (.ref g), some (.int (iI r)), some (.int (iI c)), some (.int (iI 0)), none, none, none]) (st' := [.int (iI 0), .ref g]) rfl ?_
        refine wp_g (n := 1) (pc' := 46) (L' := [some (.ref g), some (.int (iI r)), some (.int (iI c)), some (.int (iI 0)), none, none, none]) (st' := [.ref g]) rfl ?_
        refine wp_g (n := 1) (pc' := 47) (L' := [some (.ref g), some (.int (iI r)), some (.int (iI c)), some (.int (iI 0)), none, none, none]) (st' := [.int (iI 0), .ref g]) rfl ?_
        refine wp_putI rfl rfl hg (Nat.le_of_ble_eq_true rfl) rfl (fun h6 hl6 hz6 hf6 => ?_)
        have hk := (hf6 _ (by omega)).trans hk
        have hs := (hf6 _ (by omega)).trans hs
        have hb := (hf6 _ (by omega)).trans hb
        have hg : h6[g]? = some (cO 3 [.int (iI 0), .int (iI 0), .int (iI n), .ref (g + 1), .ref (g + 2), .ref (g + 3)]) := hz6
        have eR : ((layR r c : Nat) : Int) = 0 := by
          unfold layR
          rw [if_neg (by omega)]
          omega
        have eC : ((layC r c : Nat) : Int) = 0 := by
          unfold layC
          rw [if_neg (by omega)]
          omega
        have hg2 : h6[g]? = some (cO 3 [.int (iI ((layR r c : Nat) : Int)), .int (iI ((layC r c : Nat) : Int)), .int (iI n), .ref (g + 1), .ref (g + 2), .ref (g + 3)]) := by rw [eR, eC]; exact hg
        refine (m_G_lay_2 (layR_le r c) (layC_le r c) ⟨hg2, hk, hs, hb, hgl⟩).mono (fun q h9 z => ⟨z.1, ⟨?_, ?_⟩, z.2.2⟩)
        · rw [z.2.1.1, hl6, hl5]
        · intro b hb2
          rw [z.2.1.2 b hb2, hf6 b (by omega), hf5 b (by omega)]
      · have c3 : (¬ (c : Int) ≤ 0) := c3
        refine wp_g (n := 2) (pc' := 15) (L' := [some (.ref g), some (.int (iI r)), some (.int (iI c)), none, none, none, none]) (st' := [.int (iI 4), .int (iI c)]) rfl ?_
        refine wp_icmpI rfl rfl (by omega) (by omega) (by omega) (by omega) (fun c4 => ?_) (fun c4 => ?_)
        · have c4 : ((4 : Int) < (c : Int)) := c4
          refine wp_g (n := 4) (pc' := 26) (L' := [some (.ref g), some (.int (iI r)), some (.int (iI c)), some (.int (iI 0)), none, none, none]) (st' := [.int (iI 0), .ref g]) rfl ?_
          refine wp_g (n := 1) (pc' := 33) (L' := [some (.ref g), some (.int (iI r)), some (.int (iI c)), some (.int (iI 0)), none, none, none]) (st' := [.ref g]) rfl ?_
          refine wp_g (n := 1) (pc' := 34) (L' := [some (.ref g), some (.int (iI r)), some (.int (iI c)), some (.int (iI 0)), none, none, none]) (st' := [.int (iI 0), .ref g]) rfl ?_
          refine wp_putI rfl rfl hg (Nat.le_of_ble_eq_true rfl) rfl (fun h7 hl7 hz7 hf7 => ?_)
          have hk := (hf7 _ (by omega)).trans hk
          have hs := (hf7 _ (by omega)).trans hs
          have hb := (hf7 _ (by omega)).trans hb
          have hg : h7[g]? = some (cO 3 [.int (iI 0), .int (iI C), .int (iI n), .ref (g + 1), .ref (g + 2), .ref (g + 3)]) := hz7
          refine wp_g (n := 2) (pc' := 39) (L' := [some (.ref g), some (.int (iI r)), some (.int (iI c)), some (.int (iI 0)), none, none, none]) (st' := [.int (iI 0), .ref g]) rfl ?_
          refine wp_g (n := 1) (pc' := 46) (L' := [some (.ref g), some (.int (iI r)), some (.int (iI c)), some (.int (iI 0)), none, none, none]) (st' := [.ref g]) rfl ?_
          refine wp_g (n := 1) (pc' := 47) (L' := [some (.ref g), some (.int (iI r)), some (.int (iI c)), some (.int (iI 0)), none, none, none]) (st' := [.int (iI 0), .ref g]) rfl ?_
          refine wp_putI rfl rfl hg (Nat.le_of_ble_eq_true rfl) rfl (fun h8 hl8 hz8 hf8 => ?_)
          have hk := (hf8 _ (by omega)).trans hk
          have hs := (hf8 _ (by omega)).trans hs
          have hb := (hf8 _ (by omega)).trans hb
          have hg : h8[g]? = some (cO 3 [.int (iI 0), .int (iI 0), .int (iI n), .ref (g + 1), .ref (g + 2), .ref (g + 3)]) := hz8
          have eR : ((layR r c : Nat) : Int) = 0 := by
            unfold layR
            rw [if_neg (by omega)]
            omega
          have eC : ((layC r c : Nat) : Int) = 0 := by
            unfold layC
            rw [if_neg (by omega)]
            omega
          have hg2 : h8[g]? = some (cO 3 [.int (iI ((layR r c : Nat) : Int)), .int (iI ((layC r c : Nat) : Int)), .int (iI n), .ref (g + 1), .ref (g + 2), .ref (g + 3)]) := by rw [eR, eC]; exact hg
          refine (m_G_lay_2 (layR_le r c) (layC_le r c) ⟨hg2, hk, hs, hb, hgl⟩).mono (fun q h9 z => ⟨z.1, ⟨?_, ?_⟩, z.2.2⟩)
          · rw [z.2.1.1, hl8, hl7]
          · intro b hb2
            rw [z.2.1.2 b hb2, hf8 b (by omega), hf7 b (by omega)]
        · have c4 : (¬ (4 : Int) < (c : Int)) := c4
          refine wp_g (n := 5) (pc' := 26) (L' := [some (.ref g), some (.int (iI r)), some (.int (iI c)), some (.int (iI 1)), none, none, none]) (st' := [.int (iI 1), .ref g]) rfl ?_
          refine wp_g (n := 1) (pc' := 29) (L' := [some (.ref g), some (.int (iI r)), some (.int (iI c)), some (.int (iI 1)), none, none, none]) (st' := [.ref g]) rfl ?_
          refine wp_g (n := 2) (pc' := 34) (L' := [some (.ref g), some (.int (iI r)), some (.int (iI c)), some (.int (iI 1)), none, none, none]) (st' := [.int (iI r), .ref g]) rfl ?_
          refine wp_putI rfl rfl hg (Nat.le_of_ble_eq_true rfl) rfl (fun h9 hl9 hz9 hf9 => ?_)
          have hk := (hf9 _ (by omega)).trans hk
          have hs := (hf9 _ (by omega)).trans hs
          have hb := (hf9 _ (by omega)).trans hb
          have hg : h9[g]? = some (cO 3 [.int (iI r), .int (iI C), .int (iI n), .ref (g + 1), .ref (g + 2), .ref (g + 3)]) := hz9
          refine wp_g (n := 2) (pc' := 39) (L' := [some (.ref g), some (.int (iI r)), some (.int (iI c)), some (.int (iI 1)), none, none, none]) (st' := [.int (iI 1), .ref g]) rfl ?_
          refine wp_g (n := 1) (pc' := 42) (L' := [some (.ref g), some (.int (iI r)), some (.int (iI c)), some (.int (iI 1)), none, none, none]) (st' := [.ref g]) rfl ?_
          refine wp_g (n := 2) (pc' := 47) (L' := [some (.ref g), some (.int (iI r)), some (.int (iI c)), some (.int (iI 1)), none, none, none]) (st' := [.int (iI c), .ref g]) rfl ?_
          refine wp_putI rfl rfl hg (Nat.le_of_ble_eq_true rfl) rfl (fun h10 hl10 hz10 hf10 => ?_)
          have hk := (hf10 _ (by omega)).trans hk
          have hs := (hf10 _ (by omega)).trans hs
          have hb := (hf10 _ (by omega)).trans hb
          have hg : h10[g]? = some (cO 3 [.int (iI r), .int (iI c), .int (iI n), .ref (g + 1), .ref (g + 2), .ref (g + 3)]) := hz10
          have eR : ((layR r c : Nat) : Int) = r := by
            unfold layR
            rw [if_pos (by omega)]
            omega
          have eC : ((layC r c : Nat) : Int) = c := by
            unfold layC
            rw [if_pos (by omega)]
            omega
          have hg2 : h10[g]? = some (cO 3 [.int (iI ((layR r c : Nat) : Int)), .int (iI ((layC r c : Nat) : Int)), .int (iI n), .ref (g + 1), .ref (g + 2), .ref (g + 3)]) := by rw [eR, eC]; exact hg
          refine (m_G_lay_2 (layR_le r c) (layC_le r c) ⟨hg2, hk, hs, hb, hgl⟩).mono (fun q h9 z => ⟨z.1, ⟨?_, ?_⟩, z.2.2⟩)
          · rw [z.2.1.1, hl10, hl9]
          · intro b hb2
            rw [z.2.1.2 b hb2, hf10 b (by omega), hf9 b (by omega)]
end LAY
