def tl (G : GV) (i n q : Nat) : Int := sumN (fun set => if lps G set = n ∧ 2 * rai G set - nX G = (q : Int) - 12 then 1 else 0) i
theorem tl_rg (G : GV) (i n q : Nat) : 0 ≤ tl G i n q ∧ tl G i n q ≤ i := by
  have := sumN_rg (f := fun set => if lps G set = n ∧ 2 * rai G set - nX G = (q : Int) - 12 then (1 : Int) else 0) (lo := 0) (hi := 1) (fun e => by split <;> omega) i
  unfold tl
  omega
theorem sumN_zero : ∀ n, sumN (fun _ => 0) n = 0
  | 0 => rfl
  | n + 1 => by show sumN (fun _ => 0) n + 0 = 0; rw [sumN_zero n]; rfl
theorem tl_0 {G : GV} (hG : vG G) {i n q : Nat} (h : 16 < n) : tl G i n q = 0 := by
  unfold tl
  rw [sumN_congr (g := fun _ => 0) (fun e _ => if_neg (fun z => by have := lps16 hG e; omega)), sumN_zero]
theorem mulb {a f : Int} (h1 : 0 ≤ a) (h2 : a ≤ 4096) (h3 : -32768 ≤ f) (h4 : f ≤ 32768) : -134217728 ≤ a * f ∧ a * f ≤ 134217728 := by
  have e1 : 0 ≤ a * (32768 - f) := Int.mul_nonneg h1 (by omega)
  have e2 : 0 ≤ a * (32768 + f) := Int.mul_nonneg h1 (by omega)
  rw [Int.mul_sub] at e1
  rw [Int.mul_add] at e2
  omega
theorem adT_rg {G : GV} (hG : vG G) {i n j : Nat} (hi : i ≤ 4096) (q : Nat) : -134217728 ≤ adT (tl G i (n + 1)) (plT n) j q ∧ adT (tl G i (n + 1)) (plT n) j q ≤ 134217728 := by
  unfold adT
  rcases Nat.lt_or_ge 15 n with h | h
  · rw [tl_0 hG (by omega), Int.zero_mul]
    decide
  · have h1 := tl_rg G i (n + 1) q
    have h2 : -32768 ≤ exF (plT n) ((j : Int) - ((q : Int) - 12)) ∧ exF (plT n) ((j : Int) - ((q : Int) - 12)) ≤ 32768 := by
      unfold exF
      split
      · have h3 := plT_lo n ((j : Int) - ((q : Int) - 12)).toNat (by omega)
        have h4 : (2 : Nat) ^ n ≤ 2 ^ 15 := Nat.pow_le_pow_right (by decide) h
        omega
      · decide
    exact mulb h1.1 (by omega) h2.1 h2.2
def bkR (G : GV) (i j n : Nat) : Int := sumN (fun n => adS (tl G i (n + 1)) (plT n) j 25) n
theorem bkR_rg {G : GV} (hG : vG G) {i j : Nat} (hi : i ≤ 4096) (n : Nat) : -3355443200 * n ≤ bkR G i j n ∧ bkR G i j n ≤ 3355443200 * n := by
  have := sumN_rg (f := fun n => adS (tl G i (n + 1)) (plT n) j 25) (lo := -3355443200) (hi := 3355443200) (fun e => by
    have := sumN_rg (fun q => adT_rg hG (n := e) (j := j) hi q) 25
    unfold adS
    omega) n
  exact this
section BRK
variable {E : am_E} {k : Nat} {m : MM} {γ : GM} {t : am_H} {a : AST}
theorem S_laysBracket {Q : MM → GM → am_H → Prop} {G : GV} (hG : RG m G) (h12 : nX G ≤ 12) (hQ : ∀ m1, fr [162, 166, 167, 168, 169, 170, 183, 184, 185, 186, 187] [16, 17, 18, 19, 41] m m1 → RG m1 G → (∀ j, j < 241 → m1 187 j = bkR G (2 ^ (nX G).toNat) j 64) → Q m1 γ t) : TV E (k + 4) 269 [.ref 158] m γ t Q := by
  have hle := hG.le
  have hv := hG.2.2.1
  have h24 := cnt2_le G.2.2 (gn G.1 G.2.1)
  have hX0 : 0 ≤ nX G := h24.1
  refine vc_X9_laysBracket (S_crosses hG.1.2.2.1 (by omega) ?_)
  rw [cnt_how hG 0, cnt_how hG 1]
  have eX : cnt G.2.2 0 (gn G.1 G.2.1) + cnt G.2.2 1 (gn G.1 G.2.1) = ((nX G).toNat : Int) := by
    show nX G = _
    omega
  rw [eX]
  have hp : (2 : Nat) ^ (nX G).toNat ≤ 2 ^ 12 := Nat.pow_le_pow_right (by decide) (by omega)
  have ep : (2 : Int) ^ (nX G).toNat = ((2 ^ (nX G).toNat : Nat) : Int) := by push_cast; rfl
  have hp0 : (0 : Int) ≤ ((2 ^ (nX G).toNat : Nat) : Int) := Int.natCast_nonneg _
  have hsh : bShl 1 ((nX G).toNat : Int) = ((2 ^ (nX G).toNat : Nat) : Int) := by rw [(shs_D _ (by omega)).2.2.2, ep]
  refine upN (n := 1625) (P := fun i => ∀ m1, fr [184] [] m m1 → (∀ j, j < i → m1 184 j = 0) → hd_X9_laysBracket_7 E (k + 3) ((nX G).toNat : Int) (i : Int) m1 γ t Q) ?_ ?_ 0 (Nat.zero_le _) m fr.refl (fun j h => absurd h (Nat.not_lt_zero _))
  rotate_left
  · intro i hi ih m1 hf h0
    refine vc_X9_laysBracket_7 (by omega) (by omega) ⟨fun _ => ⟨by omega, ih _ (hf.upa 184 (by decide) (by decide)) (fun j hj => ?_)⟩, fun z => absurd (by omega) z⟩
    rw [up_self, Int.toNat_natCast]
    unfold up
    split
    · rfl
    · exact h0 j (by omega)
  intro m1 hf1 h0
  refine vc_X9_laysBracket_7 (by omega) (by omega) ⟨fun z => absurd z (by omega), fun _ => ?_⟩
  have hG1 := hG.fr hf1 (by decide) (by decide) (by decide) (by decide) (by decide) (by decide) (by decide)
  refine S_saves hG1 (fun m2 hf2 h183 => ?_)
  have hG2 := hG1.fr hf2 (by decide) (by decide) (by decide) (by decide) (by decide) (by decide) (by decide)
  refine upN (n := 2 ^ (nX G).toNat) (P := fun i => ∀ m3, fr [162, 166, 167, 168, 169, 170, 184] [16, 17, 18, 19, 41] m2 m3 → (∀ n, n ≤ 64 → ∀ q, q < 25 → m3 184 (25 * n + q) = tl G i n q) → hd_X9_laysBracket_33 E (k + 3) ((nX G).toNat : Int) (i : Int) m3 γ t Q) ?_ ?_ 0 (Nat.zero_le _) m2 fr.refl (fun n hn q hq => by rw [hf2.1 184 (by decide) (by decide)]; exact h0 _ (by omega))
  rotate_left
  · intro i hi ih m3 hf3 h4
    refine vc_X9_laysBracket_33 (by omega) (by omega) ?_
    unfold W_X9_laysBracket_33
    rw [hsh]
    refine ⟨fun _ => ?_, fun z => absurd (show (i : Int) < ((2 ^ (nX G).toNat : Nat) : Int) by omega) z⟩
    have hS3 := hG2.1.fr hf3 (by decide) (by decide) (by decide) (by decide) (by decide) (by decide)
    refine S_loopsBy i hS3 hv hG.2.2.2 (fun e he => by rw [hf3.1 183 (by decide) (by decide)]; exact h183 e he) rfl (by omega) (fun m4 hf4 hG4 hS4 h41 => ?_)
    have r1 := rai_rg (G := G) (set := i)
    have l1 := lps16 hv i
    rw [h41]
    obtain ⟨q0, hq0⟩ : ∃ q0 : Nat, 2 * rai G i - nX G = (q0 : Int) - 12 := ⟨(2 * rai G i - nX G + 12).toNat, by omega⟩
    rw [hq0, show (25 * (lps G i : Int) + 12 + ((q0 : Int) - 12)).toNat = 25 * lps G i + q0 by omega, hf4.1 184 (by decide) (by decide), h4 _ (by omega) q0 (by omega)]
    have t1 := tl_rg G i (lps G i) q0
    refine ⟨by omega, by omega, by omega, ih _ ((hf3.trans (hf4.mono (by decide) (by decide))).upa 184 (by decide) (by decide)) (fun n hn q hq => ?_)⟩
    have hst : tl G (i + 1) n q = tl G i n q + (if lps G i = n ∧ 2 * rai G i - nX G = (q : Int) - 12 then 1 else 0) := rfl
    rw [up_self, hst]
    unfold up
    by_cases c : 25 * n + q = 25 * lps G i + q0
    · have c1 : n = lps G i := by omega
      have c2 : q = q0 := by omega
      subst c1 c2
      rw [if_pos c, if_pos ⟨rfl, hq0⟩]
    · rw [if_neg c, if_neg (fun z => c (by omega)), h4 n hn q hq]
      omega
  intro m3 hf3 h4
  refine vc_X9_laysBracket_33 (by omega) (by omega) ?_
  unfold W_X9_laysBracket_33
  rw [hsh]
  refine ⟨fun z => absurd z (by omega), fun _ => ?_⟩
  have hS3 := hG2.1.fr hf3 (by decide) (by decide) (by decide) (by decide) (by decide) (by decide)
  refine S_restores hS3 hv hG.2.2.2 (fun e he => by rw [hf3.1 183 (by decide) (by decide)]; exact h183 e he) (fun m4 hf4 hG4 => ?_)
  have hff4 : fr [162, 166, 167, 168, 169, 170, 183, 184, 185, 186, 187] [16, 17, 18, 19, 41] m m4 := (((hf1.mono (by decide) (by decide)).trans (hf2.mono (by decide) (by decide))).trans (hf3.mono (by decide) (by decide))).trans (hf4.mono (by decide) (by decide))
  have h4' : ∀ n, n ≤ 64 → ∀ q, q < 25 → m4 184 (25 * n + q) = tl G (2 ^ (nX G).toNat) n q := fun n hn q hq => by
    rw [hf4.1 184 (by decide) (by decide)]
    exact h4 n hn q hq
  refine upN (n := 241) (P := fun i => ∀ m5, fr [185, 187] [] m4 m5 → (∀ j, j < i → m5 187 j = 0 ∧ m5 185 j = plT 0 j) → hd_X9_laysBracket_80 E (k + 3) (i : Int) m5 γ t Q) ?_ ?_ 0 (Nat.zero_le _) m4 fr.refl (fun j h => absurd h (Nat.not_lt_zero _))
  rotate_left
  · intro i hi ih m5 hf5 h5
    have go : ∀ v : Int, v = plT 0 i → hd_X9_laysBracket_80 E (k + 3) ((i : Int) + 1) (up (up m5 187 (up (m5 187) i 0)) 185 (up (m5 185) i v)) γ t Q := by
      intro v hv
      refine ih _ ((hf5.upa 187 (by decide) (by decide)).upa 185 (by decide) (by decide)) (fun j hj => ?_)
      rw [up_self, up_ne (by decide), up_self]
      unfold up
      by_cases c : j = i
      · rw [if_pos c, if_pos c, c, hv]
        exact ⟨rfl, rfl⟩
      · rw [if_neg c, if_neg c]
        exact h5 j (by omega)
    refine vc_X9_laysBracket_80 (by omega) ⟨fun _ => ?_, fun z => absurd (by omega) z⟩
    rw [Int.toNat_natCast]
    refine ⟨by omega, fun c => ⟨by omega, go _ ?_⟩, fun c => ⟨by omega, go _ ?_⟩⟩
    · show _ = if i = 120 then (1 : Int) else 0
      rw [if_pos (by omega)]
    · show _ = if i = 120 then (1 : Int) else 0
      rw [if_neg (by omega)]
  intro m5 hf5 h5
  refine vc_X9_laysBracket_80 (by omega) ⟨fun z => absurd z (by omega), fun _ => ?_⟩
  refine upN (n := 64) (P := fun n => ∀ m6, fr [185, 186, 187] [] m4 m6 → (∀ j, j < 241 → m6 187 j = bkR G (2 ^ (nX G).toNat) j n ∧ m6 185 j = plT n j) → hd_X9_laysBracket_119 E (k + 3) ((n : Int) + 1) m6 γ t Q) ?_ ?_ 0 (Nat.zero_le _) m5 (hf5.mono (by decide) (by decide)) h5
  · intro m6 hf6 h6
    have hG6 := hG4.fr hf6 (by decide) (by decide) (by decide) (by decide) (by decide) (by decide) (by decide)
    exact vc_X9_laysBracket_119 (by omega) ⟨fun z => absurd z (by omega), fun _ => hQ m6 (hff4.trans (hf6.mono (by decide) (by decide))) hG6 (fun j hj => (h6 j hj).1)⟩
  · intro n hn ih m6 hf6 h6
    refine vc_X9_laysBracket_119 (by omega) ⟨fun _ => ?_, fun z => absurd (by omega) z⟩
    have hi : 2 ^ (nX G).toNat ≤ 4096 := hp
    refine S_adds (n + 1) (A := tl G (2 ^ (nX G).toNat) (n + 1)) (F := plT n) (B := fun j => bkR G (2 ^ (nX G).toNat) j n) (by omega) (by omega) (fun q hq => by rw [hf6.1 184 (by decide) (by decide)]; exact h4' _ (by omega) q hq) (fun q hq => by have := tl_rg G (2 ^ (nX G).toNat) (n + 1) q; omega) (fun j hj => (h6 j hj).2) (fun j hj => (h6 j hj).1) (fun j hj q hq => ?_) (fun m7 hf7 h7 => ?_)
    · have b1 := bkR_rg hv (j := j) hi n
      have b2 := sumN_rg (fun q => adT_rg hv (n := n) (j := j) hi q) q
      unfold adS
      omega
    · refine S_multiplies (F := plT n) (fun j hj => by rw [hf7.1 185 (by decide) (by decide)]; exact (h6 j hj).2) (fun j hj => plT_rg (n := n + 1) (by omega) hj) (fun m8 hf8 h8 => ?_)
      have := ih m8 ((hf6.trans (hf7.mono (by decide) (by decide))).trans (hf8.mono (by decide) (by decide))) (fun j hj => ⟨?_, h8 j hj⟩)
      · rw [show ((n + 1 : Nat) : Int) + 1 = (n : Int) + 1 + 1 by omega] at this
        exact this
      · rw [hf8.1 187 (by decide) (by decide), h7 j hj]
        rfl
end BRK
