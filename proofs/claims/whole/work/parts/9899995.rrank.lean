/-! ===== ranks modulo p: the reference ===== -/
theorem lft_D : ∀ n, n < 801 → ∀ p, p < 14 → (decide (p = 0) || decide (Int.tmod (Int.tmod (((n : Nat) : Int) - 400) ((p : Nat) : Int) + ((p : Nat) : Int)) ((p : Nat) : Int) = (((n : Nat) : Int) - 400) % ((p : Nat) : Int))) = true := by decide +kernel
theorem lft_E : ∀ n, n < 801 → ∀ p, p < 14 → (decide (p = 0) || (decide (-14 ≤ Int.tmod (((n : Nat) : Int) - 400) ((p : Nat) : Int)) && decide (Int.tmod (((n : Nat) : Int) - 400) ((p : Nat) : Int) ≤ 14))) = true := by decide +kernel
def iv_P (p : Nat) : Bool := (List.range p).all (fun v => decide (v = 0) || (List.range p).any (fun i => decide (((i : Int) * (v : Int)) % (p : Int) = 1)))
theorem iv_D : (iv_P 2 && iv_P 3 && iv_P 5 && iv_P 7 && iv_P 11 && iv_P 13) = true := by decide +kernel
theorem iv_ex {p : Nat} (hp : pr6 p) {v : Int} (h0 : 0 < v) (h1 : v < p) : ∃ i : Nat, 1 ≤ i ∧ i < p ∧ ((i : Int) * v) % (p : Int) = 1 := by
  have h : iv_P p = true := by
    have h := iv_D
    simp only [Bool.and_eq_true] at h
    unfold pr6 at hp
    rcases hp with rfl | rfl | rfl | rfl | rfl | rfl <;> simp [h]
  unfold iv_P at h
  rw [List.all_eq_true] at h
  have h := h v.toNat (List.mem_range.mpr (by omega))
  rw [Bool.or_eq_true, decide_eq_true_eq] at h
  rcases h with h | h
  · omega
  · obtain ⟨i, i1, i2⟩ := List.any_eq_true.mp h
    have i2 := of_decide_eq_true i2
    rw [Int.toNat_of_nonneg (by omega)] at i2
    refine ⟨i, ?_, List.mem_range.mp i1, i2⟩
    rcases Nat.eq_zero_or_pos i with q | q
    · rw [q] at i2
      rw [show ((0 : Nat) : Int) * v = 0 from Int.zero_mul v, Int.zero_emod] at i2
      omega
    · exact q
section RR
variable {E : am_E} {k : Nat} {m : MM} {γ : GM} {t : am_H} {Q : Int → MM → GM → am_H → Prop}
theorem S_leftR {x : Int} {p : Nat} (hp : pr6 p) (hx : -400 ≤ x ∧ x ≤ 400) (hQ : 0 ≤ x % (p : Int) ∧ x % (p : Int) < p → Q (x % (p : Int)) m γ t) : TI E k 280 [.int (iI x), .int (iI (p : Int))] m γ t Q := by
  have hp0 : 0 < p ∧ p < 14 := by unfold pr6 at hp; omega
  have m1 := Int.emod_nonneg x (show (p : Int) ≠ 0 by omega)
  have m2 := Int.emod_lt_of_pos x (show (0 : Int) < (p : Int) by omega)
  have hQ := hQ ⟨m1, m2⟩
  have h1 := lft_D (x + 400).toNat (by omega) p hp0.2
  have h2 := lft_E (x + 400).toNat (by omega) p hp0.2
  rw [show (((x + 400).toNat : Nat) : Int) - 400 = x by omega] at h1 h2
  simp only [Bool.or_eq_true, Bool.and_eq_true, decide_eq_true_eq] at h1 h2
  have h1 : Int.tmod (Int.tmod x (p : Int) + (p : Int)) (p : Int) = x % (p : Int) := by
    rcases h1 with h | h
    · omega
    · exact h
  refine vc_X9_left (by omega) (by omega) ⟨by omega, by omega, by omega, ?_⟩
  rw [h1]
  exact ⟨by omega, hQ⟩
def TBR (m : MM) (r j : Nat) : Int := m 191 (48 * r + j)
theorem mulP {p : Nat} (hp : pr6 p) {x y : Int} (hx : 0 ≤ x ∧ x < p) (hy : 0 ≤ y ∧ y < p) : 0 ≤ x * y ∧ x * y ≤ 144 := by
  have hp0 : 0 < p ∧ p < 14 := by unfold pr6 at hp; omega
  have := mul_sm (x := x) (y := y) (by omega) (by omega)
  exact ⟨Int.mul_nonneg hx.1 hy.1, this.2⟩
theorem S_rankR {p : Nat} {N : Int} (n : Nat) (hp : pr6 p) (hn : n ≤ 24) (hb : ∀ r j, r < n → j < 48 → 0 ≤ m 191 (48 * r + j) ∧ m 191 (48 * r + j) < p) (hN : CNT p (TBR m) 0 n 0 = N) (hQ : ∀ (f : Nat) (m1 : MM), f ≤ 24 → N * ((p ^ f : Nat) : Int) = ((p ^ 48 : Nat) : Int) → fr [191] [] m m1 → Q (f : Int) m1 γ t) : TI E (k + 1) 281 [.ref 158, .int (iI (n : Int)), .int (iI 48), .int (iI (p : Int))] m γ t Q := by
  have hp0 : 0 < p ∧ p < 14 := by unfold pr6 at hp; omega
  have ix : ∀ i j : Nat, ((48 * (i : Int)) + (j : Int)).toNat = 48 * i + j := fun i j => by omega
  refine vc_X9_rankBy (by omega) (by omega) (by omega) ?_
  refine upN (n := 48) (P := fun c => ∀ (f : Nat) (m1 : MM), f ≤ n → fr [191] [] m m1 → (∀ r j, r < n → j < 48 → 0 ≤ m1 191 (48 * r + j) ∧ m1 191 (48 * r + j) < p) → RKI p N (TBR m1) f n c → hd_X9_rankBy_6 E k (n : Int) 48 (p : Int) (n : Int) 48 (p : Int) (f : Int) (c : Int) m1 γ t Q) ?_ (fun c hc ih => ?_) 0 (Nat.zero_le _) 0 m (Nat.zero_le _) fr.refl hb ⟨by rw [hN, Nat.pow_zero]; show N * 1 = 1 * N; omega, fun r _ _ j hj => absurd hj (Nat.not_lt_zero j)⟩
  · intro f m1 hfn f1 b1 R1
    exact vc_X9_rankBy_6 (by omega) (by omega) (by omega) (by omega) (by omega) (by omega) (by omega) (by omega) ⟨fun z => absurd z (by omega), fun _ => hQ f m1 (by omega) (RKI_end R1 (by omega) (fun r a b j hj => R1.2 r a b j hj)) f1⟩
  · intro f m1 hfn f1 b1 R1
    refine vc_X9_rankBy_6 (by omega) (by omega) (by omega) (by omega) (by omega) (by omega) (by omega) (by omega) ⟨fun _ => ⟨fun hf => ?_, fun hf => hQ f m1 (by omega) (RKI_end R1 (by omega) (fun r a b j hj => absurd b (by omega))) f1⟩, fun z => absurd (by omega) z⟩
    have hf : f < n := by omega
    have w := upN (n := n) (P := fun r => f ≤ r → (∀ r', f ≤ r' → r' < r → TBR m1 r' c = 0) → hd_X9_rankBy_22 E k (n : Int) 48 (p : Int) (n : Int) 48 (p : Int) (f : Int) (c : Int) (r : Int) m1 γ t Q) (fun _ hz => ?_) (fun r hr ih2 => fun hfr hz => ?_) f hfn (Nat.le_refl _) (fun r' a b => absurd b (by omega))
    · exact w
    · refine vc_X9_rankBy_22 (by omega) (by omega) (by omega) (by omega) (by omega) (by omega) (by omega) (by omega) (by omega) ⟨fun z => absurd z (by omega), fun _ => ⟨fun _ => ?_, fun z => absurd rfl z⟩⟩
      exact ih f m1 hfn f1 b1 (RKI_np R1 (by omega) (fun r a b => by rw [hz r a b]; exact Int.zero_emod _))
    · have bv := b1 r c hr (by omega)
      refine vc_X9_rankBy_22 (by omega) (by omega) (by omega) (by omega) (by omega) (by omega) (by omega) (by omega) (by omega) ⟨fun _ => ⟨by omega, ?_⟩, fun z => absurd (by omega) z⟩
      rw [ix]
      refine ⟨fun z => ih2 (by omega) (fun r' a b => ?_), fun z => ⟨fun z2 => absurd z2 (by omega), fun _ => ?_⟩⟩
      · by_cases q : r' = r
        · rw [q]; exact z
        · exact hz r' a (by omega)
      -- the inverse
      have inv : ∀ d y, y + d = p → 1 ≤ y → (∀ i : Nat, 1 ≤ i → i < y → ((i : Int) * m1 191 (48 * r + c)) % (p : Int) ≠ 1) → hd_X9_rankBy_62 E k (n : Int) 48 (p : Int) (n : Int) 48 (p : Int) (f : Int) (c : Int) (r : Int) (y : Int) m1 γ t Q := by
        intro d
        induction d with
        | zero =>
          intro y hy h1 hno
          obtain ⟨i, i1, i2, i3⟩ := iv_ex hp (show 0 < m1 191 (48 * r + c) by omega) bv.2
          exact absurd i3 (hno i i1 (by omega))
        | succ d ihd =>
          intro y hy h1 hno
          have pb := mulP hp (show 0 ≤ (y : Int) ∧ (y : Int) < p by omega) bv
          have e1 := Int.emod_nonneg ((y : Int) * m1 191 (48 * r + c)) (show (p : Int) ≠ 0 by omega)
          have e2 := Int.emod_lt_of_pos ((y : Int) * m1 191 (48 * r + c)) (show (0 : Int) < (p : Int) by omega)
          refine vc_X9_rankBy_62 (by omega) (by omega) (by omega) (by omega) (by omega) (by omega) (by omega) (by omega) (by omega) (by omega) ⟨by omega, ?_⟩
          rw [ix]
          refine ⟨by omega, pb.1, by omega, by omega, fun hu => ?_, fun hu => ihd (y + 1) (by omega) (by omega) (fun i a b => ?_)⟩
          · -- swap and scale
            have hur : 0 ≤ (y : Int) ∧ (y : Int) < p := by omega
            refine upN (n := 48) (P := fun kk => ∀ m2 : MM, fr [191] [] m m2 → (∀ r' j, r' < n → j < 48 → m2 191 (48 * r' + j) = if j < kk then (if r' = f then (m1 191 (48 * r + j) * (y : Int)) % (p : Int) else if r' = r then m1 191 (48 * f + j) else m1 191 (48 * r' + j)) else m1 191 (48 * r' + j)) → hd_X9_rankBy_93 E k (n : Int) 48 (p : Int) (n : Int) 48 (p : Int) (f : Int) (c : Int) (r : Int) (y : Int) (kk : Int) m2 γ t Q) (fun m2 f2 v2 => ?_) (fun kk hkk ih3 => fun m2 f2 v2 => ?_) 0 (Nat.zero_le _) m1 f1 (fun r' j _ _ => by rw [if_neg (Nat.not_lt_zero j)])
            · -- clear below
              have v2 : ∀ r' j, r' < n → j < 48 → m2 191 (48 * r' + j) = (if r' = f then (m1 191 (48 * r + j) * (y : Int)) % (p : Int) else if r' = r then m1 191 (48 * f + j) else m1 191 (48 * r' + j)) := fun r' j a b => by rw [v2 r' j a b, if_pos b]
              have b2 : ∀ r' j, r' < n → j < 48 → 0 ≤ m2 191 (48 * r' + j) ∧ m2 191 (48 * r' + j) < p := fun r' j a b => by
                rw [v2 r' j a b]
                split
                · exact ⟨Int.emod_nonneg _ (by omega), Int.emod_lt_of_pos _ (by omega)⟩
                · split
                  · exact b1 f j hf b
                  · exact b1 r' j a b
              have fc : m2 191 (48 * f + c) = 1 := by
                rw [v2 f c hf (by omega), if_pos rfl, Int.mul_comm]
                exact hu
              refine vc_X9_rankBy_93 (by omega) (by omega) (by omega) (by omega) (by omega) (by omega) (by omega) (by omega) (by omega) (by omega) (by omega) ⟨fun z => absurd z (by omega), fun _ => ?_⟩
              have w := upN (n := n) (P := fun i => f + 1 ≤ i → ∀ m3 : MM, fr [191] [] m m3 → (∀ r' j, r' < n → j < 48 → m3 191 (48 * r' + j) = if f < r' ∧ r' < i then (m2 191 (48 * r' + j) - m2 191 (48 * r' + c) * m2 191 (48 * f + j)) % (p : Int) else m2 191 (48 * r' + j)) → hd_X9_rankBy_172 E k (n : Int) 48 (p : Int) (n : Int) 48 (p : Int) (f : Int) (c : Int) (i : Int) m3 γ t Q) (fun _ m3 f3 v3 => ?_) (fun i hi ih4 => fun hfi m3 f3 v3 => ?_) (f + 1) (by omega) (Nat.le_refl _) m2 f2 (fun r' j a b => by rw [if_neg (by omega)])
              · exact w
              · -- next column
                have v3 : ∀ r' j, r' < n → j < 48 → m3 191 (48 * r' + j) = if f < r' then (m2 191 (48 * r' + j) - m2 191 (48 * r' + c) * m2 191 (48 * f + j)) % (p : Int) else m2 191 (48 * r' + j) := fun r' j a b => by
                  rw [v3 r' j a b]
                  by_cases q : f < r'
                  · rw [if_pos q, if_pos ⟨q, a⟩]
                  · rw [if_neg q, if_neg (fun z => q z.1)]
                refine vc_X9_rankBy_172 (by omega) (by omega) (by omega) (by omega) (by omega) (by omega) (by omega) (by omega) (by omega) ⟨fun z => absurd z (by omega), fun _ => ?_⟩
                -- the rows exchanged, not yet scaled
                have sw : ∀ yy, sat p (TBR m1) f n yy ↔ sat p (fun r' j => if r' = f then m1 191 (48 * r + j) else if r' = r then m1 191 (48 * f + j) else m1 191 (48 * r' + j)) f n yy := sat_swap hfr hr (Nat.le_refl f) hf (fun j _ => by
                  show (if r = f then m1 191 (48 * r + j) else if r = r then m1 191 (48 * f + j) else _) = m1 191 (48 * f + j)
                  by_cases q : r = f
                  · rw [if_pos q, q]
                  · rw [if_neg q, if_pos rfl]) (fun j _ => by
                  show (if f = f then m1 191 (48 * r + j) else _) = m1 191 (48 * r + j)
                  rw [if_pos rfl]) (fun r' a b j _ => by
                  show (if r' = f then _ else if r' = r then _ else m1 191 (48 * r' + j)) = m1 191 (48 * r' + j)
                  rw [if_neg b, if_neg a])
                have ey : (y : Int) % (p : Int) ≠ 0 := by
                  rw [Int.emod_eq_of_lt hur.1 hur.2]
                  omega
                have m2r : ∀ r' j, r' < n → j < 48 → r' ≠ f → m2 191 (48 * r' + j) = if r' = f then m1 191 (48 * r + j) else if r' = r then m1 191 (48 * f + j) else m1 191 (48 * r' + j) := fun r' j a b q => by rw [v2 r' j a b, if_neg q, if_neg q]
                have m2f : ∀ j, j < 48 → m2 191 (48 * f + j) = (m1 191 (48 * r + j) * (y : Int)) % (p : Int) := fun j b => by rw [v2 f j hf b, if_pos rfl]
                have low2 : ∀ r', f ≤ r' → r' < n → ∀ j, j < c → m2 191 (48 * r' + j) % (p : Int) = 0 := fun r' a b j hj => by
                  rw [v2 r' j b (by omega)]
                  split
                  · rw [Int.emod_emod]
                    exact mul_0 (R1.2 r hfr hr j hj)
                  · split
                    · exact R1.2 f (Nat.le_refl f) hf j hj
                    · exact R1.2 r' a b j hj
                have nxt := ih (f + 1) m3 (by omega) f3 (fun r' j a b => by
                  rw [v3 r' j a b]
                  split
                  · exact ⟨Int.emod_nonneg _ (by omega), Int.emod_lt_of_pos _ (by omega)⟩
                  · exact b2 r' j a b) (RKI_pv hp R1 (by omega) hf (fun yy => (sw yy).trans (sat_mix hp hf (uf := (y : Int)) ey (fun j hj => by
                    show m3 191 (48 * f + j) % (p : Int) = ((y : Int) * (if f = f then m1 191 (48 * r + j) else _)) % (p : Int)
                    rw [v3 f j hf hj, if_neg (Nat.lt_irrefl f), m2f j hj, Int.emod_emod, if_pos rfl, Int.mul_comm]) (fun r' a b => ⟨1, -m2 191 (48 * r' + c) * (y : Int), by
                    unfold pr6 at hp
                    rcases hp with rfl | rfl | rfl | rfl | rfl | rfl <;> decide, fun j hj => by
                    show m3 191 (48 * r' + j) % (p : Int) = (1 * (if r' = f then m1 191 (48 * r + j) else if r' = r then m1 191 (48 * f + j) else m1 191 (48 * r' + j)) + -m2 191 (48 * r' + c) * (y : Int) * (if f = f then m1 191 (48 * r + j) else _)) % (p : Int)
                    rw [v3 r' j b hj, if_pos a, Int.emod_emod, ← m2r r' j b hj (by omega), if_pos rfl, m2f j hj]
                    have e3 : m2 191 (48 * r' + c) * ((m1 191 (48 * r + j) * (y : Int)) % (p : Int)) % (p : Int) = (m2 191 (48 * r' + c) * (m1 191 (48 * r + j) * (y : Int))) % (p : Int) := by
                      rw [Int.mul_emod, Int.emod_emod, ← Int.mul_emod]
                    rw [Int.sub_emod, e3, ← Int.sub_emod]
                    have e4 : m2 191 (48 * r' + j) - m2 191 (48 * r' + c) * (m1 191 (48 * r + j) * (y : Int)) = 1 * m2 191 (48 * r' + j) + -m2 191 (48 * r' + c) * (y : Int) * m1 191 (48 * r + j) := by grind
                    rw [e4]⟩) yy)) (by
                    show m3 191 (48 * f + c) % (p : Int) ≠ 0
                    rw [v3 f c hf (by omega), if_neg (Nat.lt_irrefl f), fc]
                    unfold pr6 at hp
                    rcases hp with rfl | rfl | rfl | rfl | rfl | rfl <;> decide) (fun r' a b j hj => by
                    show m3 191 (48 * r' + j) % (p : Int) = 0
                    rw [v3 r' j b (by omega), if_pos (by omega), Int.emod_emod]
                    by_cases q : j = c
                    · rw [q, fc, Int.mul_one, Int.sub_self]
                      exact Int.zero_emod _
                    · have k1 := low2 r' (by omega) b j (by omega)
                      have k2 := low2 f (Nat.le_refl f) hf j (by omega)
                      rw [Int.sub_emod, k1, Int.mul_comm, mul_0 k2]
                      rfl))
                exact nxt
              · have e3 : m3 191 (48 * i + c) = m2 191 (48 * i + c) := by rw [v3 i c hi (by omega), if_neg (by omega)]
                have bi := b2 i c hi (by omega)
                refine vc_X9_rankBy_172 (by omega) (by omega) (by omega) (by omega) (by omega) (by omega) (by omega) (by omega) (by omega) ⟨fun _ => ⟨by omega, ?_⟩, fun z => absurd (by omega) z⟩
                rw [ix, e3]
                by_cases hby : m2 191 (48 * i + c) = 0
                · rw [hby]
                  refine vc_X9_rankBy_196 (by omega) (by omega) (by omega) (by omega) (by omega) (by omega) (by omega) (by omega) (by omega) (by omega) (by omega) ⟨fun _ => ⟨fun _ => ih4 (by omega) m3 f3 (fun r' j a b => ?_), fun z => absurd rfl z⟩, fun z => absurd (by omega) z⟩
                  rw [v3 r' j a b]
                  by_cases q : f < r' ∧ r' < i
                  · rw [if_pos q, if_pos (by omega)]
                  · rw [if_neg q]
                    by_cases q2 : f < r' ∧ r' < i + 1
                    · have q3 : r' = i := by omega
                      have bj := b2 i j hi b
                      rw [if_pos q2, q3, hby, Int.zero_mul, Int.sub_zero, Int.emod_eq_of_lt bj.1 bj.2]
                    · rw [if_neg q2]
                · refine upN (n := 48) (P := fun kk => ∀ m4 : MM, fr [191] [] m m4 → (∀ r' j, r' < n → j < 48 → m4 191 (48 * r' + j) = if (f < r' ∧ r' < i) ∨ (r' = i ∧ j < kk) then (m2 191 (48 * r' + j) - m2 191 (48 * r' + c) * m2 191 (48 * f + j)) % (p : Int) else m2 191 (48 * r' + j)) → hd_X9_rankBy_196 E k (n : Int) 48 (p : Int) (n : Int) 48 (p : Int) (f : Int) (c : Int) (i : Int) (m2 191 (48 * i + c)) (kk : Int) m4 γ t Q) (fun m4 f4 v4 => ?_) (fun kk hkk ih5 => fun m4 f4 v4 => ?_) 0 (Nat.zero_le _) m3 f3 (fun r' j a b => by
                    rw [v3 r' j a b]
                    by_cases q : f < r' ∧ r' < i
                    · rw [if_pos q, if_pos (Or.inl q)]
                    · rw [if_neg q, if_neg (by omega)])
                  · refine vc_X9_rankBy_196 (by omega) (by omega) (by omega) (by omega) (by omega) (by omega) (by omega) (by omega) (by omega) (by omega) (by omega) ⟨fun z => absurd z (by omega), fun _ => ih4 (by omega) m4 f4 (fun r' j a b => ?_)⟩
                    rw [v4 r' j a b]
                    by_cases q : f < r' ∧ r' < i + 1
                    · rw [if_pos (by omega), if_pos q]
                    · rw [if_neg (by omega), if_neg q]
                  · have e5 : m4 191 (48 * i + kk) = m2 191 (48 * i + kk) := by rw [v4 i kk hi hkk, if_neg (by omega)]
                    have e6 : m4 191 (48 * f + kk) = m2 191 (48 * f + kk) := by rw [v4 f kk hf hkk, if_neg (by omega)]
                    have b5 := b2 i kk hi hkk
                    have b6 := b2 f kk hf hkk
                    have b7 := mulP hp bi b6
                    refine vc_X9_rankBy_196 (by omega) (by omega) (by omega) (by omega) (by omega) (by omega) (by omega) (by omega) (by omega) (by omega) (by omega) ⟨fun _ => ⟨fun z => absurd z hby, fun _ => ⟨by omega, by omega, ?_⟩⟩, fun z => absurd (by omega) z⟩
                    rw [ix, ix, e5, e6]
                    refine S_leftR hp (by omega) (fun hr5 => ⟨by omega, ih5 _ (f4.upa 191 (by decide) (by decide)) (fun r' j a b => ?_)⟩)
                    rw [up_self]
                    by_cases q : r' = i ∧ j = kk
                    · rw [q.1, q.2, up_self, if_pos (by omega)]
                    · rw [up_ne (by omega), v4 r' j a b]
                      by_cases q2 : (f < r' ∧ r' < i) ∨ (r' = i ∧ j < kk)
                      · rw [if_pos q2, if_pos (by omega)]
                      · rw [if_neg q2, if_neg (by omega)]
            · have e2r : m2 191 (48 * r + kk) = m1 191 (48 * r + kk) := by rw [v2 r kk hr hkk, if_neg (Nat.lt_irrefl kk)]
              have e2f : m2 191 (48 * f + kk) = m1 191 (48 * f + kk) := by rw [v2 f kk hf hkk, if_neg (Nat.lt_irrefl kk)]
              have b3 := b1 r kk hr hkk
              have b4 := mulP hp b3 hur
              have e3 := Int.emod_nonneg (m1 191 (48 * r + kk) * (y : Int)) (show (p : Int) ≠ 0 by omega)
              have e4 := Int.emod_lt_of_pos (m1 191 (48 * r + kk) * (y : Int)) (show (0 : Int) < (p : Int) by omega)
              refine vc_X9_rankBy_93 (by omega) (by omega) (by omega) (by omega) (by omega) (by omega) (by omega) (by omega) (by omega) (by omega) (by omega) ⟨fun _ => ⟨by omega, by omega, by omega, ?_⟩, fun z => absurd (by omega) z⟩
              rw [ix, ix, e2r, e2f, up_up]
              refine ⟨by omega, b4.1, by omega, by omega, by omega, ih3 _ (f2.upa 191 (by decide) (by decide)) (fun r' j a b => ?_)⟩
              rw [up_self]
              by_cases q1 : r' = f ∧ j = kk
              · rw [q1.1, q1.2, up_self, if_pos (by omega), if_pos rfl]
              · rw [up_ne (by omega)]
                by_cases q2 : r' = r ∧ j = kk
                · rw [q2.1, q2.2, up_self, if_pos (by omega), if_neg (by omega), if_pos rfl]
                · rw [up_ne (by omega), v2 r' j a b]
                  by_cases q3 : j < kk
                  · rw [if_pos q3, if_pos (show j < kk + 1 by omega)]
                  · rw [if_neg q3]
                    by_cases q4 : j < kk + 1
                    · rw [if_pos q4, if_neg (by omega), if_neg (by omega)]
                    · rw [if_neg q4]
          · by_cases q : i = y
            · rw [q]; exact hu
            · exact hno i a (by omega)
      have := inv (p - 1) 1 (by omega) (Nat.le_refl _) (fun i a b => absurd b (by omega))
      exact this
end RR
