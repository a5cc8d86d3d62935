/-- nothing changed but from g to g + 3 -/
def FG (h h1 : am_H) (g : Nat) : Prop := h1.length = h.length ∧ ∀ b : Nat, (b < g ∨ g + 3 < b) → h1[b]? = h[b]?
theorem FG.rf {h : am_H} {g : Nat} : FG h h g := ⟨rfl, fun _ _ => rfl⟩
theorem FG.tr {h h1 h2 : am_H} {g : Nat} (a : FG h h1 g) (b : FG h1 h2 g) : FG h h2 g := ⟨b.1.trans a.1, fun q hq => (b.2 q hq).trans (a.2 q hq)⟩
theorem FG.one {h h1 : am_H} {g a : Nat} (hl : h1.length = h.length) (hf : ∀ b : Nat, b ≠ a → h1[b]? = h[b]?) (g1 : g ≤ a) (g2 : a ≤ g + 3) : FG h h1 g := ⟨hl, fun q hq => hf q (by omega)⟩
/-- the cells of a Grid alone -/
def GC (h : am_H) (g : Nat) (R C n : Int) (K S B : Nat → Int) : Prop :=
  h[g]? = some (cO 3 [.int (iI R), .int (iI C), .int (iI n), .ref (g + 1), .ref (g + 2), .ref (g + 3)]) ∧ h[g + 1]? = some (cI 24 K) ∧ h[g + 2]? = some (cI 24 S) ∧ h[g + 3]? = some (cI 32 B) ∧ g + 3 < 1000000
section GRW
variable {E : am_E} {k : Nat} {h : am_H} {g : Nat} {R C n : Int} {K S B : Nat → Int}
theorem GR.gc (G : GR h g R C n K S B) : GC h g R C n K S B := ⟨G.1, G.2.1, G.2.2.1, G.2.2.2.1, G.2.2.2.2.1⟩
theorem GR.moved {h1 : am_H} {g' : Nat} (G : GR h g R C n K S B) (hf : FG h h1 g') (ha : g + 3 < g' ∨ g' + 3 < g) : GR h1 g R C n K S B :=
  ⟨(hf.2 g (by omega)).trans G.1, (hf.2 (g + 1) (by omega)).trans G.2.1, (hf.2 (g + 2) (by omega)).trans G.2.2.1, (hf.2 (g + 3) (by omega)).trans G.2.2.2.1, G.2.2.2.2⟩
/-- Arrays.fill(int[], int), its loop -/
theorem m_fill_l {a n : Nat} {v : Int} (ha : a < 1000000) (hn : n ≤ 100000) : ∀ (m i : Nat) (F : Nat → Int) (h : am_H), n - i = m → i ≤ n → h[a]? = some (cI n F) → (∀ j, j < i → F j = v) → wp E k 320 5 [some (.ref a), some (.int (iI v)), some (.int (iI (i : Int))), some (.int (iI (n : Int)))] [] h (fun r h1 => r = none ∧ h1.length = h.length ∧ (∃ F1 : Nat → Int, h1[a]? = some (cI n F1) ∧ ∀ j, j < n → F1 j = v) ∧ ∀ b : Nat, b ≠ a → h1[b]? = h[b]?)
  | m, i, F, h, hm, hi, hh, hF => by
    have ih : ∀ (i' : Nat) (F' : Nat → Int) {h' : am_H}, n - i' < m → i' ≤ n → h'[a]? = some (cI n F') → (∀ j, j < i' → F' j = v) → wp E k 320 5 [some (.ref a), some (.int (iI v)), some (.int (iI (i' : Int))), some (.int (iI (n : Int)))] [] h' (fun r h1 => r = none ∧ h1.length = h'.length ∧ (∃ F1 : Nat → Int, h1[a]? = some (cI n F1) ∧ ∀ j, j < n → F1 j = v) ∧ ∀ b : Nat, b ≠ a → h1[b]? = h'[b]?) := fun i' F' h' h1 h2 h3 h4 => m_fill_l ha hn (n - i') i' F' h' rfl h2 h3 h4
    refine wp_g (n := 2) (pc' := 7) (L' := [some (.ref a), some (.int (iI v)), some (.int (iI (i : Int))), some (.int (iI (n : Int)))]) (st' := [.int (iI (n : Int)), .int (iI (i : Int))]) rfl ?_
    refine wp_icmpI rfl rfl (by omega) (by omega) (by omega) (by omega) (fun c1 => ?_) (fun c1 => ?_)
    · have c1 : (((n : Int) : Int) ≤ ((i : Int) : Int)) := c1
      refine wp_vret rfl rfl ?_
      exact ⟨rfl, rfl, ⟨F, hh, fun j hj => hF j (by omega)⟩, fun b _ => rfl⟩
    · have c1 : (¬ ((n : Int) : Int) ≤ ((i : Int) : Int)) := c1
      refine wp_g (n := 3) (pc' := 13) (L' := [some (.ref a), some (.int (iI v)), some (.int (iI (i : Int))), some (.int (iI (n : Int)))]) (st' := [.int (iI v), .int (iI (i : Int)), .ref a]) rfl ?_
      refine wp_iasF rfl hh (by omega) (by omega) (by omega) (fun h1 hl1 hz1 hf1 => ?_)
      have hh : h1[a]? = some (cI n (up F ((i : Int)).toNat v)) := hz1
      refine wp_iinc (L' := [some (.ref a), some (.int (iI v)), some (.int (iI ((i : Int) + 1))), some (.int (iI (n : Int)))]) rfl rfl rfl ?_
      refine wp_g (n := 1) (pc' := 5) (L' := [some (.ref a), some (.int (iI v)), some (.int (iI ((i : Int) + 1))), some (.int (iI (n : Int)))]) (st' := []) rfl ?_
      refine (wp_L (ih (i + 1) _ (by omega) (by omega) hh (fun j hj => ?_)) (by rw [Int.natCast_add]; rfl)).mono (fun r h2 q => ⟨q.1, q.2.1.trans hl1, q.2.2.1, fun b hb => (q.2.2.2 b hb).trans (hf1 b hb)⟩)
      by_cases hji : j = i
      · subst hji
        simp [up]
      · have : j < i := by omega
        simp [up, hji, hF j this]
  termination_by m => m
theorem m_fill {a n : Nat} {F : Nat → Int} (hh : h[a]? = some (cI n F)) (ha : a < 1000000) (hn : n ≤ 100000) (v : Int) : wp E k 320 0 (am_entry [.ref a, .int (iI v)] 4) [] h (fun r h1 => r = none ∧ h1.length = h.length ∧ (∃ F1 : Nat → Int, h1[a]? = some (cI n F1) ∧ ∀ j, j < n → F1 j = v) ∧ ∀ b : Nat, b ≠ a → h1[b]? = h[b]?) := by
  refine wp_g (n := 3) (pc' := 3) (L' := [some (.ref a), some (.int (iI v)), some (.int (iI 0)), none]) (st' := [.ref a]) rfl ?_
  refine wp_alen rfl hh ha ?_
  refine wp_g (n := 1) (pc' := 5) (L' := [some (.ref a), some (.int (iI v)), some (.int (iI 0)), some (.int (iI (n : Int)))]) (st' := []) rfl ?_
  exact m_fill_l ha hn n 0 F h rfl (by omega) hh (fun j hj => absurd hj (Nat.not_lt_zero j))
/-- Grid.change -/
theorem m_G_change (G : GR h g R C n K S B) (e d : Int) (e1 : -2147483648 ≤ e) (e2 : e < 2147483648) (d1 : 0 ≤ d) (d2 : d ≤ 3) : wp E (k + 1) 42 0 (am_entry [.ref g, .int (iI e), .int (iI d)] 3) [] h (fun r h1 => r = none ∧ FG h h1 g ∧ GR h1 g R C n (if 0 ≤ e ∧ e < n then up K e.toNat d else K) S B) := by
  have G0 := G
  obtain ⟨hg, hk, hs, hb, hgl, hR, hC, hn, hK, hB⟩ := G
  have hHe : (if 0 ≤ e ∧ e < n then (1 : Int) else 0) = 0 ∧ ¬ (0 ≤ e ∧ e < n) ∨ (if 0 ≤ e ∧ e < n then (1 : Int) else 0) = 1 ∧ 0 ≤ e ∧ e < n := by split <;> omega
  refine wp_g (n := 2) (pc' := 2) (L' := [some (.ref g), some (.int (iI e)), some (.int (iI d))]) (st' := [.int (iI e), .ref g]) rfl ?_
  refine wp_cv (As := [.int (iI e)]) (rest := []) rfl rfl hg (by omega) rfl rfl rfl (Nat.le_of_ble_eq_true rfl) (Nat.le_of_ble_eq_true rfl) (m_G_hasEdge G0 e (by omega) (by omega)) (fun r1 h1 q1 => ?_)
  obtain ⟨rfl, e1⟩ := q1
  rw [e1]
  show wp _ _ _ _ _ [.int (iI (if 0 ≤ e ∧ e < n then 1 else 0))] _ _
  refine wp_ifI rfl rfl (by omega) (by omega) (fun c1 => ?_) (fun c1 => ?_)
  · have c1 : (((if 0 ≤ e ∧ e < n then 1 else 0) : Int) = 0) := c1
    refine wp_vret rfl rfl ?_
    exact ⟨rfl, FG.rf, by rw [if_neg (by omega)]; exact G0⟩
  · have c1 : (¬ ((if 0 ≤ e ∧ e < n then 1 else 0) : Int) = 0) := c1
    refine wp_g (n := 1) (pc' := 9) (L' := [some (.ref g), some (.int (iI e)), some (.int (iI d))]) (st' := [.ref g]) rfl ?_
    refine wp_getf rfl rfl hg (by omega) rfl ?_
    refine wp_g (n := 2) (pc' := 14) (L' := [some (.ref g), some (.int (iI e)), some (.int (iI d))]) (st' := [.int (iI d), .int (iI e), .ref (g + 1)]) rfl ?_
    refine wp_cs (As := [.ref (g + 1), .int (iI e), .int (iI d)]) (rest := []) rfl rfl rfl rfl (Nat.le_of_ble_eq_true rfl) (Nat.le_of_ble_eq_true rfl) (m_put hk (by omega) (by omega) e d (by omega) (by omega)) (fun r2 h2 q2 => ?_)
    obtain ⟨rfl, hl2, hz2, hf2⟩ := q2
    have hg := (hf2 _ (by omega)).trans hg
    have hs := (hf2 _ (by omega)).trans hs
    have hb := (hf2 _ (by omega)).trans hb
    have hk : h2[(g + 1)]? = some (cI 24 (if 0 ≤ (e : Int) ∧ e < (24 : Nat) then up K (e).toNat d else K)) := hz2
    show wp _ _ _ _ _ [] _ _
    refine wp_vret rfl rfl ?_
    refine ⟨rfl, FG.one hl2 hf2 (by omega) (by omega), ?_⟩
    rw [if_pos (by omega)] at hk
    rw [if_pos (by omega)]
    refine ⟨hg, hk, hs, hb, hgl, hR, hC, hn, fun j hj => ⟨?_, (hK j hj).2⟩, hB⟩
    unfold up
    split
    · omega
    · exact (hK j hj).1
/-- the same rows, columns and kinds -/
def gLike (R C n : Int) (K : Nat → Int) (R2 C2 n2 : Int) (K2 : Nat → Int) : Prop := R = R2 ∧ C = C2 ∧ ∀ e : Nat, (e : Int) < n → K e = K2 e
noncomputable def bI (p : Prop) : Int := @ite _ p (Classical.propDecidable p) 1 0
theorem bI_t {p : Prop} (h : p) : bI p = 1 := @if_pos _ (Classical.propDecidable p) h _ _ _
theorem bI_f {p : Prop} (h : ¬ p) : bI p = 0 := @if_neg _ (Classical.propDecidable p) h _ _ _
/-- Grid.isLike, its loop -/
theorem m_G_isLike_l {g2 : Nat} {R2 C2 n2 : Int} {K2 S2 B2 : Nat → Int} (G : GR h g R C n K S B) (G2 : GR h g2 R2 C2 n2 K2 S2 B2) (en : R = R2 → C = C2 → n = n2) (eR : R = R2) (eC : C = C2) : ∀ (m j : Nat), n.toNat - j = m → (j : Int) ≤ n → (∀ e : Nat, e < j → K e = K2 e) → wp E (k + 1) 43 26 [some (.ref g), some (.ref g2), some (.int (iI (j : Int)))] [] h (aI (bI (gLike R C n K R2 C2 n2 K2)) h)
  | m, j, hm, hj, hlt => by
    have ih : ∀ j' : Nat, n.toNat - j' < m → (j' : Int) ≤ n → (∀ e : Nat, e < j' → K e = K2 e) → wp E (k + 1) 43 26 [some (.ref g), some (.ref g2), some (.int (iI (j' : Int)))] [] h (aI (bI (gLike R C n K R2 C2 n2 K2)) h) := fun j' h1 h2 h3 => m_G_isLike_l G G2 en eR eC (n.toNat - j') j' rfl h2 h3
    have en := en eR eC
    have G0 := G
    obtain ⟨hg, hk, hs, hb, hgl, hR, hC, hn, hK, hB⟩ := G
    obtain ⟨hgx, hkx, hsx, hbx, hglx, hRx, hCx, hnx, hKx, hBx⟩ := id G2
    have hk1 : (j : Int) < n → (if 0 ≤ (j : Int) ∧ (j : Int) < n then K (j : Int).toNat else -1) = K j := fun z => by rw [if_pos (by omega), Int.toNat_natCast]
    have hk2 : (j : Int) < n → (if 0 ≤ (j : Int) ∧ (j : Int) < n2 then K2 (j : Int).toNat else -1) = K2 j := fun z => by rw [if_pos (by omega), Int.toNat_natCast]
    have hr1 : (j : Int) < n → 0 ≤ K j ∧ K j ≤ 3 := fun z => (hK j z).1
    have hr2 : (j : Int) < n → 0 ≤ K2 j ∧ K2 j ≤ 3 := fun z => (hKx j (by omega)).1
    refine wp_g (n := 2) (pc' := 28) (L' := [some (.ref g), some (.ref g2), some (.int (iI (j : Int)))]) (st' := [.ref g, .int (iI (j : Int))]) rfl ?_
    refine wp_getf rfl rfl hg (by omega) rfl ?_
    refine wp_icmpI rfl rfl (by omega) (by omega) (by omega) (by omega) (fun c1 => ?_) (fun c1 => ?_)
    · have c1 : ((n : Int) ≤ ((j : Int) : Int)) := c1
      refine wp_g (n := 1) (pc' := 56) (L' := [some (.ref g), some (.ref g2), some (.int (iI (j : Int)))]) (st' := [.int (iI 1)]) rfl ?_
      refine wp_zret rfl rfl (by omega) ?_
      refine ⟨congrArg (fun z => some (Value.int (iI z))) (bI_t ⟨eR, eC, fun e he => hlt e (by omega)⟩).symm, rfl⟩
    · have c1 : (¬ (n : Int) ≤ ((j : Int) : Int)) := c1
      refine wp_g (n := 2) (pc' := 36) (L' := [some (.ref g), some (.ref g2), some (.int (iI (j : Int)))]) (st' := [.int (iI (j : Int)), .ref g]) rfl ?_
      refine wp_cv (As := [.int (iI (j : Int))]) (rest := []) rfl rfl hg (by omega) rfl rfl rfl (Nat.le_of_ble_eq_true rfl) (Nat.le_of_ble_eq_true rfl) (m_G_kindOf G0 (j : Int) (by omega) (by omega)) (fun r1 h1 q1 => ?_)
      obtain ⟨rfl, e1⟩ := q1
      rw [e1]
      show wp _ _ _ _ _ [.int (iI (if 0 ≤ (j : Int) ∧ (j : Int) < n then K ((j : Int)).toNat else -1))] _ _
      refine wp_g (n := 2) (pc' := 41) (L' := [some (.ref g), some (.ref g2), some (.int (iI (j : Int)))]) (st' := [.int (iI (j : Int)), .ref g2, .int (iI (if 0 ≤ (j : Int) ∧ (j : Int) < n then K ((j : Int)).toNat else -1))]) rfl ?_
      refine wp_cv (As := [.int (iI (j : Int))]) (rest := [.int (iI (if 0 ≤ (j : Int) ∧ (j : Int) < n then K ((j : Int)).toNat else -1))]) rfl rfl hgx (by omega) rfl rfl rfl (Nat.le_of_ble_eq_true rfl) (Nat.le_of_ble_eq_true rfl) (m_G_kindOf G2 (j : Int) (by omega) (by omega)) (fun r2 h2 q2 => ?_)
      obtain ⟨rfl, e2⟩ := q2
      rw [e2]
      show wp _ _ _ _ _ [.int (iI (if 0 ≤ (j : Int) ∧ (j : Int) < n2 then K2 ((j : Int)).toNat else -1)), .int (iI (if 0 ≤ (j : Int) ∧ (j : Int) < n then K ((j : Int)).toNat else -1))] _ _
      refine wp_icmpI rfl rfl (by omega) (by omega) (by omega) (by omega) (fun c2 => ?_) (fun c2 => ?_)
      · have c2 : (((if 0 ≤ (j : Int) ∧ (j : Int) < n then K ((j : Int)).toNat else -1) : Int) = (if 0 ≤ (j : Int) ∧ (j : Int) < n2 then K2 ((j : Int)).toNat else -1)) := c2
        refine wp_iinc (L' := [some (.ref g), some (.ref g2), some (.int (iI ((j : Int) + 1)))]) rfl rfl rfl ?_
        refine wp_g (n := 1) (pc' := 26) (L' := [some (.ref g), some (.ref g2), some (.int (iI ((j : Int) + 1)))]) (st' := []) rfl ?_
        refine wp_L (ih (j + 1) (by omega) (by omega) (fun e he => ?_)) (by rw [Int.natCast_add]; rfl)
        by_cases hej : e = j
        · subst hej
          rw [hk1 (by omega), hk2 (by omega)] at c2
          omega
        · exact hlt e (by omega)
      · have c2 : (¬ ((if 0 ≤ (j : Int) ∧ (j : Int) < n then K ((j : Int)).toNat else -1) : Int) = (if 0 ≤ (j : Int) ∧ (j : Int) < n2 then K2 ((j : Int)).toNat else -1)) := c2
        refine wp_g (n := 1) (pc' := 48) (L' := [some (.ref g), some (.ref g2), some (.int (iI (j : Int)))]) (st' := [.int (iI 0)]) rfl ?_
        refine wp_zret rfl rfl (by omega) ?_
        refine ⟨congrArg (fun z => some (Value.int (iI z))) (bI_f (fun q => ?_)).symm, rfl⟩
        have := q.2.2 j (by omega)
        rw [hk1 (by omega), hk2 (by omega)] at c2
        omega
  termination_by m => m
/-- Grid.isLike -/
theorem m_G_isLike {g2 : Nat} {R2 C2 n2 : Int} {K2 S2 B2 : Nat → Int} (G : GR h g R C n K S B) (G2 : GR h g2 R2 C2 n2 K2 S2 B2) (en : R = R2 → C = C2 → n = n2) : wp E (k + 1) 43 0 (am_entry [.ref g, .ref g2] 3) [] h (aI (bI (gLike R C n K R2 C2 n2 K2)) h) := by
    have G0 := G
    obtain ⟨hg, hk, hs, hb, hgl, hR, hC, hn, hK, hB⟩ := G
    obtain ⟨hgx, hkx, hsx, hbx, hglx, hRx, hCx, hnx, hKx, hBx⟩ := id G2
    refine wp_g (n := 1) (pc' := 1) (L' := [some (.ref g), some (.ref g2), none]) (st' := [.ref g]) rfl ?_
    refine wp_getf rfl rfl hg (by omega) rfl ?_
    refine wp_g (n := 1) (pc' := 5) (L' := [some (.ref g), some (.ref g2), none]) (st' := [.ref g2, .int (iI R)]) rfl ?_
    refine wp_getf rfl rfl hgx (by omega) rfl ?_
    refine wp_icmpI rfl rfl (by omega) (by omega) (by omega) (by omega) (fun c1 => ?_) (fun c1 => ?_)
    · have c1 : (¬ (R : Int) = R2) := c1
      refine wp_g (n := 1) (pc' := 23) (L' := [some (.ref g), some (.ref g2), none]) (st' := [.int (iI 0)]) rfl ?_
      refine wp_zret rfl rfl (by omega) ?_
      refine ⟨congrArg (fun z => some (Value.int (iI z))) (bI_f (fun q => ?_)).symm, rfl⟩
      first | exact c1 q.1 | exact c2 q.2.1
    · have c1 : ((R : Int) = R2) := Classical.not_not.mp c1
      refine wp_g (n := 1) (pc' := 12) (L' := [some (.ref g), some (.ref g2), none]) (st' := [.ref g]) rfl ?_
      refine wp_getf rfl rfl hg (by omega) rfl ?_
      refine wp_g (n := 1) (pc' := 16) (L' := [some (.ref g), some (.ref g2), none]) (st' := [.ref g2, .int (iI C)]) rfl ?_
      refine wp_getf rfl rfl hgx (by omega) rfl ?_
      refine wp_icmpI rfl rfl (by omega) (by omega) (by omega) (by omega) (fun c2 => ?_) (fun c2 => ?_)
      · have c2 : ((C : Int) = C2) := c2
        refine wp_g (n := 2) (pc' := 26) (L' := [some (.ref g), some (.ref g2), some (.int (iI 0))]) (st' := []) rfl ?_
        exact m_G_isLike_l G0 G2 en (by omega) (by omega) n.toNat 0 rfl (by omega) (fun e he => absurd he (Nat.not_lt_zero e))
      · have c2 : (¬ (C : Int) = C2) := c2
        refine wp_g (n := 1) (pc' := 23) (L' := [some (.ref g), some (.ref g2), none]) (st' := [.int (iI 0)]) rfl ?_
        refine wp_zret rfl rfl (by omega) ?_
        refine ⟨congrArg (fun z => some (Value.int (iI z))) (bI_f (fun q => ?_)).symm, rfl⟩
        first | exact c1 q.1 | exact c2 q.2.1
end GRW
