/-! ===== determinants ===== -/
def skp (i r : Nat) : Nat := if r < i then r else r + 1
def sgn (i : Nat) : Int := if i % 2 = 0 then 1 else -1
theorem sgn_s (i : Nat) : sgn (i + 1) = -sgn i := by
  unfold sgn
  by_cases h : i % 2 = 0
  · rw [if_pos h, if_neg (by omega)]
  · rw [if_neg h, if_pos (by omega)]; rfl
def dt : Nat → (Nat → Nat → Int) → Int
  | 0, _ => 1
  | n + 1, A => sumN (fun i => sgn i * A i 0 * dt n (fun r c => A (skp i r) (c + 1))) (n + 1)
theorem skp_lt {i r n : Nat} (hr : r < n) : skp i r < n + 1 := by unfold skp; split <;> omega
theorem dt_congr : ∀ (n : Nat) {A B : Nat → Nat → Int}, (∀ r c, r < n → c < n → A r c = B r c) → dt n A = dt n B
  | 0, _, _, _ => rfl
  | n + 1, A, B, h => by
    refine sumN_congr (fun i hi => ?_)
    rw [h i 0 hi (by omega), dt_congr n (fun r c hr hc => h (skp i r) (c + 1) (skp_lt hr) (by omega))]
theorem sumN_mul (x : Int) (f : Nat → Int) : ∀ n, sumN (fun i => x * f i) n = x * sumN f n
  | 0 => (Int.mul_zero x).symm
  | n + 1 => by
    show sumN (fun i => x * f i) n + x * f n = x * (sumN f n + f n)
    rw [sumN_mul x f n, Int.mul_add]
theorem sumN_head (f : Nat → Int) : ∀ n, sumN f (n + 1) = f 0 + sumN (fun i => f (i + 1)) n
  | 0 => by show 0 + f 0 = f 0 + 0; omega
  | n + 1 => by
    show sumN f (n + 1) + f (n + 1) = f 0 + (sumN (fun i => f (i + 1)) n + f (n + 1))
    rw [sumN_head f n]
    omega
/-- along the first row -/
theorem dt_rowexp : ∀ (n : Nat) (A : Nat → Nat → Int), dt (n + 1) A = sumN (fun j => sgn j * A 0 j * dt n (fun r c => A (r + 1) (skp j c))) (n + 1)
  | 0, A => rfl
  | n + 1, A => by
    rw [sumN_head]
    show sumN (fun i => sgn i * A i 0 * dt (n + 1) (fun r c => A (skp i r) (c + 1))) (n + 2) = _
    rw [sumN_head]
    have e0 : sgn 0 * A 0 0 * dt (n + 1) (fun r c => A (skp 0 r) (c + 1)) = sgn 0 * A 0 0 * dt (n + 1) (fun r c => A (r + 1) (skp 0 c)) := by
      have : (fun r c => A (skp 0 r) (c + 1)) = (fun r c => A (r + 1) (skp 0 c)) := rfl
      rw [this]
    rw [e0]
    have e1 : sumN (fun i => sgn (i + 1) * A (i + 1) 0 * dt (n + 1) (fun r c => A (skp (i + 1) r) (c + 1))) (n + 1) = sumN (fun i => sumN (fun j => sgn (i + 1) * A (i + 1) 0 * (sgn j * A 0 (j + 1) * dt n (fun r c => A (skp (i + 1) (r + 1)) (skp j c + 1)))) (n + 1)) (n + 1) := by
      refine sumN_congr (fun i _ => ?_)
      rw [dt_rowexp n, sumN_mul]
      rfl
    have e2 : sumN (fun j => sgn (j + 1) * A 0 (j + 1) * dt (n + 1) (fun r c => A (r + 1) (skp (j + 1) c))) (n + 1) = sumN (fun j => sumN (fun i => sgn (j + 1) * A 0 (j + 1) * (sgn i * A (i + 1) 0 * dt n (fun r c => A (skp i r + 1) (skp (j + 1) (c + 1))))) (n + 1)) (n + 1) := by
      refine sumN_congr (fun j _ => ?_)
      rw [sumN_mul]
      rfl
    rw [e1, e2, sumN_comm]
    refine congrArg (fun z => sgn 0 * A 0 0 * dt (n + 1) (fun r c => A (r + 1) (skp 0 c)) + z) ?_
    refine sumN_congr (fun j _ => sumN_congr (fun i _ => ?_))
    have f1 : (fun r c => A (skp (i + 1) (r + 1)) (skp j c + 1)) = (fun r c => A (skp i r + 1) (skp (j + 1) (c + 1))) := by
      funext r c
      have g1 : skp (i + 1) (r + 1) = skp i r + 1 := by unfold skp; split <;> split <;> omega
      have g2 : skp (j + 1) (c + 1) = skp j c + 1 := by unfold skp; split <;> split <;> omega
      rw [g1, g2]
    rw [f1, sgn_s, sgn_s]
    grind
theorem dt_tr : ∀ (n : Nat) (A : Nat → Nat → Int), dt n (fun r c => A c r) = dt n A
  | 0, _ => rfl
  | n + 1, A => by
    rw [dt_rowexp n A]
    show sumN (fun i => sgn i * A 0 i * dt n (fun r c => A (c + 1) (skp i r))) (n + 1) = _
    refine sumN_congr (fun i _ => ?_)
    rw [← dt_tr n (fun r c => A (r + 1) (skp i c))]
/-- linear in a row -/
theorem dt_row : ∀ (n p : Nat) (x y : Int) (A B C : Nat → Nat → Int), p < n → (∀ r, r ≠ p → ∀ c, A r c = C r c) → (∀ r, r ≠ p → ∀ c, B r c = C r c) → (∀ c, C p c = x * A p c + y * B p c) → dt n C = x * dt n A + y * dt n B
  | 0, p, _, _, _, _, _, hp, _, _, _ => absurd hp (Nat.not_lt_zero p)
  | n + 1, p, x, y, A, B, C, hp, hA, hB, hC => by
    show sumN (fun i => sgn i * C i 0 * dt n (fun r c => C (skp i r) (c + 1))) (n + 1) = x * sumN (fun i => sgn i * A i 0 * dt n (fun r c => A (skp i r) (c + 1))) (n + 1) + y * sumN (fun i => sgn i * B i 0 * dt n (fun r c => B (skp i r) (c + 1))) (n + 1)
    rw [← sumN_mul, ← sumN_mul, ← sumN_add]
    refine sumN_congr (fun i hi => ?_)
    by_cases c : i = p
    · subst c
      have n1 : ∀ r, skp i r ≠ i := fun r => by unfold skp; split <;> omega
      have e1 : (fun r c => A (skp i r) (c + 1)) = (fun r c => C (skp i r) (c + 1)) := by funext r c; exact hA _ (n1 r) _
      have e2 : (fun r c => B (skp i r) (c + 1)) = (fun r c => C (skp i r) (c + 1)) := by funext r c; exact hB _ (n1 r) _
      rw [e1, e2, hC]
      grind
    · rw [hA i c, hB i c]
      have ih := dt_row n (if p < i then p else p - 1) x y (fun r c => A (skp i r) (c + 1)) (fun r c => B (skp i r) (c + 1)) (fun r c => C (skp i r) (c + 1)) (by split <;> omega) (fun r hr c => hA _ (by unfold skp; split at hr <;> split <;> omega) _) (fun r hr c => hB _ (by unfold skp; split at hr <;> split <;> omega) _) (fun c => by
        have : skp i (if p < i then p else p - 1) = p := by unfold skp; (repeat' split) <;> omega
        (try dsimp only)
        rw [this]
        exact hC _)
      rw [ih]
      grind
theorem sumN_two0 {f : Nat → Int} {p n : Nat} (h : ∀ j, j < n → j ≠ p → j ≠ p + 1 → f j = 0) (h2 : f p + f (p + 1) = 0) (hp : p + 1 < n) : sumN f n = 0 := by
  rw [sumN_congr (g := fun j => (if j = p then f p else 0) + (if j = p + 1 then f (p + 1) else 0)) (fun j hjn => ?_), sumN_add, sumN_one (f := fun j => if j = p then f p else 0) (i := p) (fun j hj => if_neg hj), sumN_one (f := fun j => if j = p + 1 then f (p + 1) else 0) (i := p + 1) (fun j hj => if_neg hj), if_pos (by omega), if_pos hp, if_pos rfl, if_pos rfl]
  · exact h2
  · by_cases c : j = p
    · subst c
      rw [if_pos rfl, if_neg (by omega)]
      omega
    · by_cases d : j = p + 1
      · subst d
        rw [if_pos rfl, if_neg (by omega)]
        omega
      · rw [if_neg c, if_neg d, h j hjn c d]
        rfl
theorem dt_adj : ∀ (n p : Nat) (A : Nat → Nat → Int), p + 1 < n → (∀ c, A p c = A (p + 1) c) → dt n A = 0
  | 0, p, _, hp, _ => absurd hp (Nat.not_lt_zero _)
  | n + 1, p, A, hp, h => by
    refine sumN_two0 (p := p) (fun i hi c1 c2 => ?_) ?_ hp
    · rw [dt_adj n (if i < p then p - 1 else p) (fun r c => A (skp i r) (c + 1)) (by split <;> omega) (fun c => ?_), Int.mul_zero]
      have g1 : skp i (if i < p then p - 1 else p) = p := by unfold skp; (repeat' split) <;> omega
      have g2 : skp i ((if i < p then p - 1 else p) + 1) = p + 1 := by unfold skp; (repeat' split) <;> omega
      (try dsimp only)
      rw [g1, g2]
      exact h _
    · (try dsimp only)
      have e1 : (fun r c => A (skp p r) (c + 1)) = (fun r c => A (skp (p + 1) r) (c + 1)) := by
        funext r c
        by_cases q : r = p
        · subst q
          have g1 : skp r r = r + 1 := by unfold skp; split <;> omega
          have g2 : skp (r + 1) r = r := by unfold skp; split <;> omega
          rw [g1, g2]
          exact (h _).symm
        · have : skp p r = skp (p + 1) r := by unfold skp; split <;> split <;> omega
          rw [this]
      rw [e1, h 0, sgn_s]
      grind
/-- two rows put in -/
theorem dt_swap (n p : Nat) (A : Nat → Nat → Int) (hp : p + 1 < n) (u v : Nat → Int) : dt n (up (up A p u) (p + 1) v) = -dt n (up (up A p v) (p + 1) u) := by
  have ne : p ≠ p + 1 := by omega
  have lin1 : ∀ w, dt n (up (up A p (fun c => u c + v c)) (p + 1) w) = dt n (up (up A p u) (p + 1) w) + dt n (up (up A p v) (p + 1) w) := by
    intro w
    have := dt_row n p 1 1 (up (up A p u) (p + 1) w) (up (up A p v) (p + 1) w) (up (up A p (fun c => u c + v c)) (p + 1) w) (by omega) (fun r hr c => ?_) (fun r hr c => ?_) (fun c => ?_)
    · rw [this]; omega
    · by_cases d : r = p + 1
      · rw [d, up_self, up_self]
      · rw [up_ne d, up_ne d, up_ne hr, up_ne hr]
    · by_cases d : r = p + 1
      · rw [d, up_self, up_self]
      · rw [up_ne d, up_ne d, up_ne hr, up_ne hr]
    · rw [up_ne ne, up_ne ne, up_ne ne, up_self, up_self, up_self]
      omega
  have lin2 : ∀ w, dt n (up (up A p w) (p + 1) (fun c => u c + v c)) = dt n (up (up A p w) (p + 1) u) + dt n (up (up A p w) (p + 1) v) := by
    intro w
    have := dt_row n (p + 1) 1 1 (up (up A p w) (p + 1) u) (up (up A p w) (p + 1) v) (up (up A p w) (p + 1) (fun c => u c + v c)) (by omega) (fun r hr c => by rw [up_ne hr, up_ne hr]) (fun r hr c => by rw [up_ne hr, up_ne hr]) (fun c => by rw [up_self, up_self, up_self]; omega)
    rw [this]; omega
  have z : ∀ w, dt n (up (up A p w) (p + 1) w) = 0 := fun w => dt_adj n p _ hp (fun c => by rw [up_ne ne, up_self, up_self])
  have h := z (fun c => u c + v c)
  rw [lin1, lin2, lin2, z, z] at h
  omega
theorem dt_eqg (n p : Nat) : ∀ (d : Nat) (A : Nat → Nat → Int), p + d + 1 < n → (∀ c, A p c = A (p + d + 1) c) → dt n A = 0
  | 0, A, hp, h => dt_adj n p A hp h
  | d + 1, A, hp, h => by
    have e : A = up (up A (p + d + 1) (A (p + d + 1))) (p + d + 1 + 1) (A (p + d + 1 + 1)) := by
      funext r
      by_cases c1 : r = p + d + 1 + 1
      · rw [c1, up_self]
      · rw [up_ne c1]
        by_cases c2 : r = p + d + 1
        · rw [c2, up_self]
        · rw [up_ne c2]
    rw [e, dt_swap n (p + d + 1) A hp, dt_eqg n p d _ (by omega) (fun c => ?_)]
    · rfl
    · rw [up_ne (show p ≠ p + d + 1 + 1 by omega), up_ne (show p ≠ p + d + 1 by omega), up_ne (show p + d + 1 ≠ p + d + 1 + 1 by omega), up_self]
      exact h c
theorem dt_eq {n p q : Nat} {A : Nat → Nat → Int} (hp : p < n) (hq : q < n) (hne : p ≠ q) (h : ∀ c, A p c = A q c) : dt n A = 0 := by
  rcases Nat.lt_or_ge p q with c | c
  · refine dt_eqg n p (q - p - 1) A (by omega) (fun x => ?_)
    rw [show p + (q - p - 1) + 1 = q by omega]
    exact h x
  · refine dt_eqg n q (p - q - 1) A (by omega) (fun x => ?_)
    rw [show q + (p - q - 1) + 1 = p by omega]
    exact (h x).symm
/-- a row and a sum of other rows -/
theorem dt_comb {n p : Nat} {A : Nat → Nat → Int} (hp : p < n) (x : Int) (cl : Nat → Int) : ∀ k, k ≤ p → dt n (up A p (fun c => x * A p c + sumN (fun l => cl l * A l c) k)) = x * dt n A
  | 0, _ => by
    have := dt_row n p x 0 A A (up A p (fun c => x * A p c + sumN (fun l => cl l * A l c) 0)) hp (fun r hr c => by rw [up_ne hr]) (fun r hr c => by rw [up_ne hr]) (fun c => by
      rw [up_self]
      show x * A p c + 0 = x * A p c + 0 * A p c
      omega)
    rw [this]
    omega
  | k + 1, hk => by
    have h0 : dt n (up A p (A k)) = 0 := dt_eq (p := k) (q := p) (by omega) hp (by omega) (fun c => by rw [up_self, up_ne (by omega)])
    have := dt_row n p 1 (cl k) (up A p (fun c => x * A p c + sumN (fun l => cl l * A l c) k)) (up A p (A k)) (up A p (fun c => x * A p c + sumN (fun l => cl l * A l c) (k + 1))) hp (fun r hr c => by rw [up_ne hr, up_ne hr]) (fun r hr c => by rw [up_ne hr, up_ne hr]) (fun c => by
      rw [up_self, up_self, up_self]
      show x * A p c + (sumN (fun l => cl l * A l c) k + cl k * A k c) = 1 * (x * A p c + sumN (fun l => cl l * A l c) k) + cl k * A k c
      omega)
    rw [this, h0, dt_comb hp x cl k (by omega)]
    omega
/-- nothing below a block -/
theorem dt_block1 : ∀ (k : Nat) (Z : Nat → Nat → Int), (∀ c, c < k → Z k c = 0) → dt (k + 1) Z = dt k Z * Z k k
  | 0, Z, _ => by
    show 0 + sgn 0 * Z 0 0 * 1 = 1 * Z 0 0
    show 0 + 1 * Z 0 0 * 1 = 1 * Z 0 0
    omega
  | k + 1, Z, h => by
    show sumN (fun i => sgn i * Z i 0 * dt (k + 1) (fun r c => Z (skp i r) (c + 1))) (k + 1) + sgn (k + 1) * Z (k + 1) 0 * _ = sumN (fun i => sgn i * Z i 0 * dt k (fun r c => Z (skp i r) (c + 1))) (k + 1) * _
    rw [h 0 (by omega), Int.mul_zero, Int.zero_mul, Int.add_zero, Int.mul_comm, ← sumN_mul]
    refine sumN_congr (fun i hi => ?_)
    have g : skp i k = k + 1 := by unfold skp; split <;> omega
    rw [dt_block1 k (fun r c => Z (skp i r) (c + 1)) (fun c hc => by
      (try dsimp only)
      rw [g]
      exact h (c + 1) (by omega))]
    (try dsimp only)
    rw [g]
    grind
theorem dt_block2 : ∀ (k : Nat) (Z : Nat → Nat → Int), (∀ c, c < k → Z k c = 0) → (∀ c, c < k → Z (k + 1) c = 0) → dt (k + 2) Z = dt k Z * (Z k k * Z (k + 1) (k + 1) - Z (k + 1) k * Z k (k + 1))
  | 0, Z, _, _ => by
    show 0 + sgn 0 * Z 0 0 * (0 + sgn 0 * Z (skp 0 0) 1 * 1) + sgn 1 * Z 1 0 * (0 + sgn 0 * Z (skp 1 0) 1 * 1) = 1 * (Z 0 0 * Z 1 1 - Z 1 0 * Z 0 1)
    show 0 + 1 * Z 0 0 * (0 + 1 * Z 1 1 * 1) + -1 * Z 1 0 * (0 + 1 * Z 0 1 * 1) = 1 * (Z 0 0 * Z 1 1 - Z 1 0 * Z 0 1)
    grind
  | k + 1, Z, h, h' => by
    show (sumN (fun i => sgn i * Z i 0 * dt (k + 2) (fun r c => Z (skp i r) (c + 1))) (k + 1) + sgn (k + 1) * Z (k + 1) 0 * _) + sgn (k + 2) * Z (k + 2) 0 * _ = sumN (fun i => sgn i * Z i 0 * dt k (fun r c => Z (skp i r) (c + 1))) (k + 1) * _
    rw [h 0 (by omega), h' 0 (by omega), Int.mul_zero, Int.mul_zero, Int.zero_mul, Int.zero_mul, Int.add_zero, Int.add_zero, Int.mul_comm, ← sumN_mul]
    refine sumN_congr (fun i hi => ?_)
    have g : skp i k = k + 1 := by unfold skp; split <;> omega
    have g' : skp i (k + 1) = k + 2 := by unfold skp; split <;> omega
    rw [dt_block2 k (fun r c => Z (skp i r) (c + 1)) (fun c hc => by
      (try dsimp only)
      rw [g]
      exact h (c + 1) (by omega)) (fun c hc => by
      (try dsimp only)
      rw [g']
      exact h' (c + 1) (by omega))]
    (try dsimp only)
    rw [g, g']
    grind
/-! ===== elimination in whole numbers ===== -/
def rx (k i r : Nat) : Nat := if r < k then r else i
def mi (A : Nat → Nat → Int) (k i j : Nat) : Int := dt (k + 1) (fun r c => A (rx k i r) (rx k j c))
/-- a sum by columns, at the last column -/
theorem dt_lastcol (k : Nat) (Z : Nat → Nat → Int) (v : Nat → Int) : ∀ n, n ≤ k + 1 → dt (k + 1) (fun r c => if c = k then (if r < n then v r else 0) else Z r c) = sumN (fun l => v l * dt (k + 1) (fun r c => if c = k then (if r = l then 1 else 0) else Z r c)) n
  | 0, _ => by
    show _ = (0 : Int)
    rw [← dt_tr]
    have := dt_row (k + 1) k 0 0 (fun r c => if r = k then (if c < 0 then v c else 0) else Z c r) (fun r c => if r = k then (if c < 0 then v c else 0) else Z c r) (fun r c => if r = k then (if c < 0 then v c else 0) else Z c r) (by omega) (fun _ _ _ => rfl) (fun _ _ _ => rfl) (fun c => by
      rw [if_pos rfl, if_neg (Nat.not_lt_zero c)]
      rfl)
    rw [this]
    omega
  | n + 1, hn => by
    show _ = sumN (fun l => v l * dt (k + 1) (fun r c => if c = k then (if r = l then 1 else 0) else Z r c)) n + v n * dt (k + 1) (fun r c => if c = k then (if r = n then 1 else 0) else Z r c)
    rw [← dt_lastcol k Z v n (by omega), ← dt_tr, ← dt_tr (k + 1) (fun r c => if c = k then (if r < n then v r else 0) else Z r c), ← dt_tr (k + 1) (fun r c => if c = k then (if r = n then 1 else 0) else Z r c)]
    have := dt_row (k + 1) k 1 (v n) (fun r c => if r = k then (if c < n then v c else 0) else Z c r) (fun r c => if r = k then (if c = n then 1 else 0) else Z c r) (fun r c => if r = k then (if c < n + 1 then v c else 0) else Z c r) (by omega) (fun r hr c => by rw [if_neg hr, if_neg hr]) (fun r hr c => by rw [if_neg hr, if_neg hr]) (fun c => by
      rw [if_pos rfl, if_pos rfl, if_pos rfl]
      rcases Nat.lt_trichotomy c n with q | q | q
      · rw [if_pos (by omega), if_pos q, if_neg (by omega)]; omega
      · subst q
        rw [if_pos (by omega), if_neg (by omega), if_pos rfl]; omega
      · rw [if_neg (by omega), if_neg (by omega), if_neg (by omega)]; omega)
    rw [this]
    omega
theorem mi_comb (A : Nat → Nat → Int) (k i : Nat) : ∃ cl : Nat → Int, ∀ j, mi A k i j = dt k A * A i j + sumN (fun l => cl l * A l j) k := by
  refine ⟨fun l => dt (k + 1) (fun r c => if c = k then (if r = l then 1 else 0) else A (rx k i r) c), fun j => ?_⟩
  have e1 : mi A k i j = dt (k + 1) (fun r c => if c = k then (if r < k + 1 then A (rx k i r) j else 0) else A (rx k i r) c) := by
    unfold mi
    refine dt_congr (k + 1) (fun r c hr hc => ?_)
    by_cases q : c = k
    · have : rx k j c = j := by unfold rx; exact if_neg (by omega)
      rw [if_pos q, if_pos hr, this]
    · have : rx k j c = c := by unfold rx; exact if_pos (by omega)
      rw [if_neg q, this]
  rw [e1, dt_lastcol k (fun r c => A (rx k i r) c) (fun r => A (rx k i r) j) (k + 1) (Nat.le_refl _)]
  show sumN (fun l => A (rx k i l) j * dt (k + 1) (fun r c => if c = k then (if r = l then 1 else 0) else A (rx k i r) c)) k + A (rx k i k) j * dt (k + 1) (fun r c => if c = k then (if r = k then 1 else 0) else A (rx k i r) c) = _
  have e2 : dt (k + 1) (fun r c => if c = k then (if r = k then 1 else 0) else A (rx k i r) c) = dt k A := by
    rw [← dt_tr, dt_block1 k _ (fun c hc => by
      (try dsimp only)
      rw [if_pos rfl, if_neg (by omega)])]
    (try dsimp only)
    rw [if_pos rfl, if_pos rfl, Int.mul_one, ← dt_tr]
    refine dt_congr k (fun r c hr hc => ?_)
    have : rx k i r = r := by unfold rx; exact if_pos hr
    rw [if_neg (by omega), this]
  have e3 : rx k i k = i := by unfold rx; exact if_neg (by omega)
  rw [e2, e3, Int.mul_comm (A i j), Int.add_comm]
  refine congrArg (fun z => dt k A * A i j + z) (sumN_congr (fun l hl => ?_))
  have : rx k i l = l := by unfold rx; exact if_pos hl
  rw [this, Int.mul_comm]
theorem mi_low {A : Nat → Nat → Int} {k i j : Nat} (hj : j < k) : mi A k i j = 0 := by
  unfold mi
  rw [← dt_tr]
  refine dt_eq (p := j) (q := k) (by omega) (by omega) (by omega) (fun c => ?_)
  have e1 : rx k j j = j := by unfold rx; exact if_pos hj
  have e2 : rx k j k = j := by unfold rx; exact if_neg (by omega)
  rw [e1, e2]
theorem mi_0 (A : Nat → Nat → Int) (i j : Nat) : mi A 0 i j = A i j := by
  show 0 + sgn 0 * A (rx 0 i 0) (rx 0 j 0) * 1 = _
  show 0 + 1 * A i j * 1 = _
  omega
theorem mi_dt (A : Nat → Nat → Int) (k : Nat) : mi A k k k = dt (k + 1) A := by
  refine dt_congr (k + 1) (fun r c hr hc => ?_)
  have e1 : rx k k r = r := by unfold rx; split <;> omega
  have e2 : rx k k c = c := by unfold rx; split <;> omega
  rw [e1, e2]
/-- one step divides without a rest -/
theorem bareiss {A : Nat → Nat → Int} {k : Nat} (hd : dt k A ≠ 0) (i j : Nat) : mi A k i j * mi A k k k - mi A k i k * mi A k k j = dt k A * mi A (k + 1) i j := by
  obtain ⟨c1, h1⟩ := mi_comb A k k
  obtain ⟨c2, h2⟩ := mi_comb A k i
  have hZ : mi A (k + 1) i j = dt (k + 2) (fun r c => A (rx (k + 1) i r) (rx (k + 1) j c)) := rfl
  generalize hZ0 : (fun r c => A (rx (k + 1) i r) (rx (k + 1) j c)) = Z0 at hZ
  have r1 : ∀ l, l < k + 1 → ∀ c, Z0 l c = A l (rx (k + 1) j c) := fun l hl c => by
    have : rx (k + 1) i l = l := by unfold rx; exact if_pos hl
    rw [← hZ0]
    show A (rx (k + 1) i l) _ = _
    rw [this]
  have r2 : ∀ c, Z0 (k + 1) c = A i (rx (k + 1) j c) := fun c => by
    have : rx (k + 1) i (k + 1) = i := by unfold rx; exact if_neg (by omega)
    rw [← hZ0]
    show A (rx (k + 1) i (k + 1)) _ = _
    rw [this]
  have s1 := dt_comb (n := k + 2) (p := k) (A := Z0) (by omega) (dt k A) c1 k (Nat.le_refl _)
  generalize hZ1 : up Z0 k (fun c => dt k A * Z0 k c + sumN (fun l => c1 l * Z0 l c) k) = Z1 at s1
  have s2 := dt_comb (n := k + 2) (p := k + 1) (A := Z1) (by omega) (dt k A) c2 k (by omega)
  generalize hZ2 : up Z1 (k + 1) (fun c => dt k A * Z1 (k + 1) c + sumN (fun l => c2 l * Z1 l c) k) = Z2 at s2
  have z1 : ∀ c, Z2 k c = mi A k k (rx (k + 1) j c) := fun c => by
    rw [← hZ2, up_ne (by omega), ← hZ1, up_self, h1, r1 k (by omega)]
    refine congrArg (fun z => dt k A * A k (rx (k + 1) j c) + z) (sumN_congr (fun l hl => ?_))
    rw [r1 l (by omega)]
  have z2 : ∀ c, Z2 (k + 1) c = mi A k i (rx (k + 1) j c) := fun c => by
    rw [← hZ2, up_self, ← hZ1, up_ne (by omega), h2, r2]
    refine congrArg (fun z => dt k A * A i (rx (k + 1) j c) + z) (sumN_congr (fun l hl => ?_))
    rw [up_ne (by omega), r1 l (by omega)]
  have z0 : ∀ r, r < k → ∀ c, Z2 r c = A r (rx (k + 1) j c) := fun r hr c => by
    rw [← hZ2, up_ne (by omega), ← hZ1, up_ne (by omega), r1 r (by omega)]
  have l1 : ∀ c, c < k → rx (k + 1) j c = c := fun c hc => by unfold rx; exact if_pos (by omega)
  have l2 : rx (k + 1) j k = k := by unfold rx; exact if_pos (by omega)
  have l3 : rx (k + 1) j (k + 1) = j := by unfold rx; exact if_neg (by omega)
  have b := dt_block2 k Z2 (fun c hc => by rw [z1, l1 c hc, mi_low hc]) (fun c hc => by rw [z2, l1 c hc, mi_low hc])
  rw [z1, z2, z1, z2, l2, l3, dt_congr k (A := Z2) (B := A) (fun r c hr hc => by rw [z0 r hr, l1 c hc]), s2, s1] at b
  rw [hZ]
  refine (Int.eq_of_mul_eq_mul_left hd ?_).symm
  rw [b]
  refine congrArg (fun z => dt k A * z) ?_
  rw [Int.mul_comm (mi A k k k)]
