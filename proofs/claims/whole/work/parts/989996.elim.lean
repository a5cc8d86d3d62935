/-! ===== elimination: signs and sizes ===== -/
theorem mi_symm {A : Nat → Nat → Int} (hS : ∀ a b, A a b = A b a) (k i j : Nat) : mi A k i j = mi A k j i := by
  unfold mi
  rw [← dt_tr]
  exact dt_congr _ (fun r c _ _ => hS _ _)
/-- nothing above 0 beside the diagonal, sums of rows not below 0 -/
theorem domR {f : Nat → Int} {i n : Nat} (hi : i < n) (ho : ∀ j, j < n → j ≠ i → f j ≤ 0) (hs : 0 ≤ sumN f n) : 0 ≤ f i ∧ ∀ j, j < n → j ≠ i → -f i ≤ f j := by
  have e : sumN f n = f i - sumN (fun j => if j < n ∧ j ≠ i then -f j else 0) n := by
    have h1 := sumN_add (fun j => if j = i then f i else 0) (fun j => -1 * (if j < n ∧ j ≠ i then -f j else 0)) n
    rw [sumN_mul, sumN_one (f := fun j => if j = i then f i else 0) (i := i) (fun j hj => if_neg hj), if_pos hi, if_pos rfl] at h1
    rw [sumN_congr (g := fun j => (if j = i then f i else 0) + -1 * (if j < n ∧ j ≠ i then -f j else 0)) (fun j hj => ?_), h1]
    · omega
    · by_cases q : j = i
      · subst q
        rw [if_pos rfl, if_neg (fun z => z.2 rfl)]
        omega
      · rw [if_neg q, if_pos ⟨hj, q⟩]
        omega
  have hp : ∀ j, 0 ≤ (if j < n ∧ j ≠ i then -f j else 0) := fun j => by
    split
    · next h => have := ho j h.1 h.2; omega
    · exact Int.le_refl 0
  have h0 : 0 ≤ sumN (fun j => if j < n ∧ j ≠ i then -f j else 0) n := by
    have := sumN_le (f := fun _ => 0) (g := fun j => if j < n ∧ j ≠ i then -f j else 0) n (fun j _ => hp j)
    rw [sumN_zero] at this
    exact this
  refine ⟨by omega, fun j hj hne => ?_⟩
  have h1 := sumN_ge (f := fun j => if j < n ∧ j ≠ i then -f j else 0) hp (c := j) n hj
  rw [if_pos ⟨hj, hne⟩] at h1
  omega
theorem cube3 : ∀ d, d < 49 → d ^ 3 ≤ 3 ^ d := by decide +kernel
def EI (A : Nat → Nat → Int) (z k : Nat) : Prop := 0 < dt k A ∧ (∀ i j, k ≤ i → i < z → k ≤ j → j < z → i ≠ j → mi A k i j ≤ 0) ∧ (∀ i, k ≤ i → i < z → 0 ≤ sumN (fun j => mi A k i j) z) ∧ (∀ i, k ≤ i → i < z → mi A k i i ≤ dt k A * A i i) ∧ (dt k A).toNat ^ 3 ≤ 3 ^ (sumN (fun l => A l l) k).toNat
def LO (A : Nat → Nat → Int) (z : Nat) : Prop := (∀ a b, A a b = A b a) ∧ (∀ a b, a ≠ b → A a b ≤ 0) ∧ (∀ i, i < z → 0 ≤ sumN (fun j => A i j) z) ∧ (∀ a, 0 ≤ A a a) ∧ sumN (fun a => A a a) z ≤ 48
theorem EI.dom {A : Nat → Nat → Int} {z k : Nat} (h : EI A z k) {i : Nat} (hki : k ≤ i) (hi : i < z) : 0 ≤ mi A k i i ∧ ∀ j, j < z → j ≠ i → -mi A k i i ≤ mi A k i j ∧ mi A k i j ≤ 0 := by
  have ho : ∀ j, j < z → j ≠ i → mi A k i j ≤ 0 := fun j hj hne => by
    rcases Nat.lt_or_ge j k with c | c
    · rw [mi_low c]; exact Int.le_refl 0
    · exact h.2.1 i j hki hi c hj (Ne.symm hne)
  have := id (domR (f := fun j => mi A k i j) hi ho (h.2.2.1 i hki hi))
  exact ⟨this.1, fun j hj hne => ⟨this.2 j hj hne, ho j hj hne⟩⟩
theorem sumN_part {f : Nat → Int} (hf : ∀ i, 0 ≤ f i) {k i : Nat} (hki : k ≤ i) : ∀ n, i < n → sumN f k + f i ≤ sumN f n
  | 0, h => absurd h (Nat.not_lt_zero i)
  | n + 1, h => by
    show sumN f k + f i ≤ sumN f n + f n
    by_cases c : i = n
    · subst c
      have : ∀ a b, a ≤ b → sumN f a ≤ sumN f b := by
        intro a b hab
        induction b with
        | zero => rw [show a = 0 by omega]; exact Int.le_refl _
        | succ b ih =>
          rcases Nat.lt_or_ge b a with q | q
          · rw [show a = b + 1 by omega]; exact Int.le_refl _
          · have := ih q
            have := hf b
            show sumN f a ≤ sumN f b + f b
            omega
      have := this k i hki
      omega
    · have := sumN_part hf hki n (by omega)
      have := hf n
      omega
theorem sumN_pos {f : Nat → Int} (hf : ∀ i, 0 ≤ f i) : ∀ n, 0 ≤ sumN f n
  | 0 => Int.le_refl 0
  | n + 1 => by
    have := sumN_pos hf n
    have := hf n
    show 0 ≤ sumN f n + f n
    omega
/-- the diagonal's size -/
theorem EI.size {A : Nat → Nat → Int} {z k : Nat} (hL : LO A z) (h : EI A z k) {i : Nat} (hki : k ≤ i) (hi : i < z) : (mi A k i i).toNat ^ 3 ≤ 3 ^ (sumN (fun l => A l l) k + A i i).toNat ∧ mi A k i i ≤ 43046721 := by
  obtain ⟨h1, -, -, h4, h5⟩ := h
  have hd := hL.2.2.2.1
  have h48 := sumN_part (f := fun l => A l l) hd hki z hi
  have hz := hL.2.2.2.2
  have s0 := sumN_pos (f := fun l => A l l) hd k
  have hm := h4 i hki hi
  have ha := hd i
  have c3 := cube3 (A i i).toNat (by omega)
  have e1 : (mi A k i i).toNat ≤ (dt k A).toNat * (A i i).toNat := by
    have : (((dt k A).toNat * (A i i).toNat : Nat) : Int) = dt k A * A i i := by
      rw [Int.natCast_mul, Int.toNat_of_nonneg (by omega), Int.toNat_of_nonneg ha]
    omega
  have e2 : (mi A k i i).toNat ^ 3 ≤ 3 ^ (sumN (fun l => A l l) k + A i i).toNat := by
    refine Nat.le_trans (Nat.pow_le_pow_left e1 3) ?_
    rw [Nat.mul_pow, Int.toNat_add s0 ha, Nat.pow_add]
    exact Nat.mul_le_mul h5 c3
  refine ⟨e2, ?_⟩
  have e3 : (mi A k i i).toNat ^ 3 ≤ 43046721 ^ 3 := by
    refine Nat.le_trans e2 (Nat.le_trans (Nat.pow_le_pow_right (by decide) (show _ ≤ 48 by omega)) (by decide))
  have e4 := (Nat.pow_le_pow_iff_left (n := 3) (by decide)).mp e3
  omega
theorem le0_of_mul {d x : Int} (hd : 0 < d) (h : d * x ≤ 0) : x ≤ 0 := by
  rcases Int.lt_or_le 0 x with c | c
  · have := Int.mul_pos hd c
    omega
  · exact c
theorem ge0_of_mul {d x : Int} (hd : 0 < d) (h : 0 ≤ d * x) : 0 ≤ x := by
  rcases Int.lt_or_le x 0 with c | c
  · have := Int.mul_neg_of_pos_of_neg hd c
    omega
  · exact c
theorem EI_0 {A : Nat → Nat → Int} {z : Nat} (hL : LO A z) : EI A z 0 := by
  have e : mi A 0 = A := by
    funext i j
    exact mi_0 A i j
  refine ⟨(by decide : (0 : Int) < 1), fun i j _ _ _ _ h => ?_, fun i _ hi => ?_, fun i _ _ => ?_, (by decide : (1 : Int).toNat ^ 3 ≤ 3 ^ (0 : Int).toNat)⟩
  · rw [e]; exact hL.2.1 i j h
  · rw [e]; exact hL.2.2.1 i hi
  · rw [e]
    show A i i ≤ 1 * A i i
    omega
theorem EI_s {A : Nat → Nat → Int} {z k : Nat} (hL : LO A z) (h : EI A z k) (hk : k < z) (hp : dt (k + 1) A ≠ 0) : EI A z (k + 1) := by
  have hd := h.1
  have b := bareiss (A := A) (k := k) (by omega)
  have hkk := h.dom (Nat.le_refl k) hk
  have hpk : 0 < mi A k k k := by
    have := mi_dt A k
    omega
  have low : ∀ i, k + 1 ≤ i → i < z → mi A k i k ≤ 0 := fun i h1 h2 => h.2.1 i k (by omega) h2 (Nat.le_refl k) hk (by omega)
  have low' : ∀ j, k + 1 ≤ j → j < z → mi A k k j ≤ 0 := fun j h1 h2 => h.2.1 k j (Nat.le_refl k) hk (by omega) h2 (by omega)
  have hsz := h.size hL (Nat.le_refl k) hk
  refine ⟨by rw [← mi_dt]; exact hpk, fun i j h1 h2 h3 h4 hne => ?_, fun i h1 h2 => ?_, fun i h1 h2 => ?_, ?_⟩
  · refine le0_of_mul hd ?_
    rw [← b i j]
    have e1 := h.2.1 i j (by omega) h2 (by omega) h4 hne
    have e2 := Int.mul_nonpos_of_nonpos_of_nonneg e1 (Int.le_of_lt hpk)
    have e3 := Int.mul_nonneg_of_nonpos_of_nonpos (low i h1 h2) (low' j h3 h4)
    omega
  · refine ge0_of_mul hd ?_
    rw [← sumN_mul, sumN_congr (g := fun j => mi A k k k * mi A k i j + -mi A k i k * mi A k k j) (fun j _ => by
      rw [← b i j]
      grind), sumN_add, sumN_mul, sumN_mul]
    have e1 : 0 ≤ mi A k k k * sumN (mi A k i) z := Int.mul_nonneg (Int.le_of_lt hpk) (h.2.2.1 i (by omega) h2)
    have e2 : 0 ≤ -mi A k i k * sumN (mi A k k) z := Int.mul_nonneg (show 0 ≤ -mi A k i k by have := low i h1 h2; omega) (h.2.2.1 k (Nat.le_refl k) hk)
    omega
  · have e0 : dt (k + 1) A = mi A k k k := (mi_dt A k).symm
    have e1 := b i i
    rw [mi_symm hL.1 k k i] at e1
    have e2 := Int.mul_nonneg_of_nonpos_of_nonpos (low i h1 h2) (low i h1 h2)
    have e3 := h.2.2.2.1 i (by omega) h2
    have e4 := Int.mul_le_mul_of_nonneg_right e3 (Int.le_of_lt hpk)
    rw [e0]
    have e5 : dt k A * mi A (k + 1) i i ≤ dt k A * (mi A k k k * A i i) := by
      rw [← e1]
      have : dt k A * A i i * mi A k k k = dt k A * (mi A k k k * A i i) := by grind
      omega
    exact Int.le_of_mul_le_mul_left e5 hd
  · rw [← mi_dt]
    exact hsz.1
/-- a pivot of 0 -/
theorem EI_z {A : Nat → Nat → Int} {z k : Nat} (h : EI A z k) (hk : k < z) (hp : dt (k + 1) A = 0) : (∀ j, j < z → mi A k k j = 0) ∧ dt z A = 0 := by
  have hkk := h.dom (Nat.le_refl k) hk
  have e0 := mi_dt A k
  have hz : ∀ j, j < z → mi A k k j = 0 := fun j hj => by
    by_cases c : j = k
    · rw [c]; omega
    · have := hkk.2 j hj c
      omega
  refine ⟨hz, ?_⟩
  obtain ⟨cl, hc⟩ := mi_comb A k k
  have h1 := dt_comb (n := z) (p := k) (A := A) hk (dt k A) cl k (Nat.le_refl _)
  have h2 : dt z (up A k (fun c => dt k A * A k c + sumN (fun l => cl l * A l c) k)) = 0 := by
    have := dt_row z k 0 0 (up A k (fun c => dt k A * A k c + sumN (fun l => cl l * A l c) k)) (up A k (fun c => dt k A * A k c + sumN (fun l => cl l * A l c) k)) (up A k (fun _ => 0)) hk (fun r hr c => by rw [up_ne hr, up_ne hr]) (fun r hr c => by rw [up_ne hr, up_ne hr]) (fun c => by
      rw [up_self]
      omega)
    rw [dt_congr z (A := up A k (fun c => dt k A * A k c + sumN (fun l => cl l * A l c) k)) (B := up A k (fun _ => 0)) (fun r c hr hc' => ?_), this]
    · omega
    · by_cases q : r = k
      · rw [q, up_self, up_self, ← hc c, hz c hc']
      · rw [up_ne q, up_ne q]
  rw [h2] at h1
  rcases Int.mul_eq_zero.mp h1.symm with c | c
  · have := h.1
    omega
  · exact c
theorem LO_LM {G : GV} (hG : vG G) {f : Nat → Nat} {n : Nat} (hf : ∀ c, c < G.1 * G.2.1 → f c < n) : LO (LM G f) (n - 1) := by
  have hd := LM_diag hG (f := f) (n - 1)
  refine ⟨LM_symm G f, fun a b h => LM_off h, fun i hi => ?_, hd.1, hd.2⟩
  have h1 := LM_sum hG hf i
  obtain ⟨m, rfl⟩ : ∃ m, n = m + 1 := ⟨n - 1, by omega⟩
  have h2 : sumN (fun b => LM G f i b) (m + 1) = sumN (fun b => LM G f i b) m + LM G f i m := rfl
  have h3 := LM_off (G := G) (f := f) (show i ≠ m by omega)
  show 0 ≤ sumN (fun j => LM G f i j) m
  omega
/-- the sizes met on the way -/
theorem EI.rg {A : Nat → Nat → Int} {z k : Nat} (hL : LO A z) (h : EI A z k) {i j : Nat} (hki : k ≤ i) (hi : i < z) (hj : j < z) : -43046721 ≤ mi A k i j ∧ mi A k i j ≤ 43046721 := by
  have h1 := h.dom hki hi
  have h2 := (h.size hL hki hi).2
  by_cases c : j = i
  · rw [c]; omega
  · have := h1.2 j hj c
    omega
theorem mul_rgT {x y : Int} (hx : -43046721 ≤ x ∧ x ≤ 43046721) (hy : -43046721 ≤ y ∧ y ≤ 43046721) : -1853020188851841 ≤ x * y ∧ x * y ≤ 1853020188851841 := by
  have h1 : (x * y).natAbs ≤ 43046721 * 43046721 := by
    rw [Int.natAbs_mul]
    exact Nat.mul_le_mul (by omega) (by omega)
  omega
theorem EI.step {A : Nat → Nat → Int} {z k : Nat} (h : EI A z k) (i j : Nat) : Int.tdiv (mi A k i j * mi A k k k - mi A k i k * mi A k k j) (dt k A) = mi A (k + 1) i j := by
  have hd := h.1
  rw [bareiss (by omega), Int.mul_tdiv_cancel_left _ (by omega)]
