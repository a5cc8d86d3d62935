/-! ===== counting solutions modulo p ===== -/
def cW (p : Nat) : Nat → Nat → ((Nat → Int) → Int) → (Nat → Int) → Int
  | 0, _, f, x => f x
  | d + 1, c, f, x => cW p d (c + 1) (fun y => sumN (fun v => f (up y c (v : Int))) p) x
theorem cW_mul (p : Nat) (k : Int) : ∀ (d c : Nat) (f : (Nat → Int) → Int) (x : Nat → Int), cW p d c (fun y => k * f y) x = k * cW p d c f x
  | 0, _, _, _ => rfl
  | d + 1, c, f, x => by
    show cW p d (c + 1) (fun y => sumN (fun v => k * f (up y c (v : Int))) p) x = k * cW p d (c + 1) (fun y => sumN (fun v => f (up y c (v : Int))) p) x
    rw [← cW_mul p k d]
    have : (fun y => sumN (fun v => k * f (up y c (v : Int))) p) = (fun y => k * sumN (fun v => f (up y c (v : Int))) p) := by
      funext y
      rw [sumN_mul]
    rw [this]
theorem cW_one (p : Nat) : ∀ (d c : Nat) (x : Nat → Int), cW p d c (fun _ => 1) x = ((p ^ d : Nat) : Int)
  | 0, _, _ => rfl
  | d + 1, c, x => by
    show cW p d (c + 1) (fun _ => sumN (fun _ => 1) p) x = _
    have : (fun _ : Nat → Int => sumN (fun _ => 1) p) = (fun y => (p : Int) * (fun _ => 1) y) := by
      funext y
      rw [sumN_const1]
      show (p : Int) = (p : Int) * 1
      omega
    rw [this, cW_mul, cW_one p d, Nat.pow_succ, Int.natCast_mul, Int.mul_comm]
theorem cW_swap (p j : Nat) : ∀ (d c : Nat) (f : (Nat → Int) → Int) (x : Nat → Int), c ≤ j → j + 1 < c + d → cW p d c (fun y => f (fun i => y (sw j i))) x = cW p d c f x
  | 0, c, f, x, h1, h2 => absurd h2 (by omega)
  | d + 1, c, f, x, h1, h2 => by
    show cW p d (c + 1) (fun y => sumN (fun v => f (fun i => up y c (v : Int) (sw j i))) p) x = cW p d (c + 1) (fun y => sumN (fun v => f (up y c (v : Int))) p) x
    by_cases hj : c = j
    · subst hj
      match d, h2 with
      | 0, h2 => exact absurd h2 (by omega)
      | d + 1, h2 =>
        show cW p d (c + 2) (fun y => sumN (fun w => sumN (fun v => f (fun i => up (up y (c + 1) (w : Int)) c (v : Int) (sw c i))) p) p) x = cW p d (c + 2) (fun y => sumN (fun w => sumN (fun v => f (up (up y (c + 1) (w : Int)) c (v : Int))) p) p) x
        have : (fun y : Nat → Int => sumN (fun w => sumN (fun v => f (fun i => up (up y (c + 1) (w : Int)) c (v : Int) (sw c i))) p) p) = (fun y => sumN (fun w => sumN (fun v => f (up (up y (c + 1) (w : Int)) c (v : Int))) p) p) := by
          funext y
          rw [sumN_comm]
          refine sumN_congr (fun v _ => sumN_congr (fun w _ => ?_))
          have : (fun i => up (up y (c + 1) (w : Int)) c (v : Int) (sw c i)) = up (up y (c + 1) (v : Int)) c (w : Int) := by
            funext i
            unfold sw
            by_cases q1 : i = c
            · rw [if_pos q1, up_ne (by omega), up_self, q1, up_self]
            · by_cases q2 : i = c + 1
              · rw [if_neg q1, if_pos q2, up_self, up_ne q1, q2, up_self]
              · rw [if_neg q1, if_neg q2, up_ne q1, up_ne q2, up_ne q1, up_ne q2]
          rw [this]
        rw [this]
    · rw [← cW_swap p j d (c + 1) (fun y => sumN (fun v => f (up y c (v : Int))) p) x (by omega) (by omega)]
      have : (fun y : Nat → Int => sumN (fun v => f (fun i => up y c (v : Int) (sw j i))) p) = (fun y => sumN (fun v => f (up (fun i => y (sw j i)) c (v : Int))) p) := by
        funext y
        refine sumN_congr (fun v _ => ?_)
        have : (fun i => up y c (v : Int) (sw j i)) = up (fun i => y (sw j i)) c (v : Int) := by
          funext i
          by_cases q1 : i = c
          · have : sw j i = c := by unfold sw; rw [if_neg (by omega), if_neg (by omega), q1]
            rw [this, q1, up_self, up_self]
          · have : sw j i ≠ c := by unfold sw; split; omega; split <;> omega
            rw [up_ne this, up_ne q1]
        rw [this]
      rw [this]
/-- the small primes -/
def pr6 (p : Nat) : Prop := p = 2 ∨ p = 3 ∨ p = 5 ∨ p = 7 ∨ p = 11 ∨ p = 13
def un_P (p : Nat) : Bool := (List.range p).all (fun a => (List.range p).all (fun m => decide (m = 0) || decide (sumN (fun v => if ((a : Int) + (m : Int) * (v : Int)) % (p : Int) = 0 then 1 else 0) p = 1)))
def nz_P (p : Nat) : Bool := (List.range p).all (fun a => (List.range p).all (fun m => decide (m = 0) || decide (a = 0) || !decide (((m : Int) * (a : Int)) % (p : Int) = 0)))
theorem un_D : (un_P 2 && un_P 3 && un_P 5 && un_P 7 && un_P 11 && un_P 13 && nz_P 2 && nz_P 3 && nz_P 5 && nz_P 7 && nz_P 11 && nz_P 13) = true := by decide +kernel
theorem un_p {p : Nat} (hp : pr6 p) : un_P p = true ∧ nz_P p = true := by
  have h := un_D
  simp only [Bool.and_eq_true] at h
  unfold pr6 at hp
  rcases hp with rfl | rfl | rfl | rfl | rfl | rfl <;> simp [h]
theorem uniq {p : Nat} (hp : pr6 p) (a m : Int) (hm : m % (p : Int) ≠ 0) : sumN (fun v => if (a + m * (v : Int)) % (p : Int) = 0 then 1 else 0) p = 1 := by
  have hp0 : 0 < p := by unfold pr6 at hp; omega
  have hpi : (0 : Int) < (p : Int) := by omega
  have a1 := Int.emod_nonneg a (show (p : Int) ≠ 0 by omega)
  have a2 := Int.emod_lt_of_pos a hpi
  have m1 := Int.emod_nonneg m (show (p : Int) ≠ 0 by omega)
  have m2 := Int.emod_lt_of_pos m hpi
  have h := (un_p hp).1
  unfold un_P at h
  rw [List.all_eq_true] at h
  have h := h (a % p).toNat (List.mem_range.mpr (by omega))
  rw [List.all_eq_true] at h
  have h := h (m % p).toNat (List.mem_range.mpr (by omega))
  rw [Bool.or_eq_true, decide_eq_true_eq, decide_eq_true_eq] at h
  rcases h with h | h
  · omega
  · refine Eq.trans (sumN_congr (fun v _ => ?_)) h
    rw [Int.toNat_of_nonneg a1, Int.toNat_of_nonneg m1]
    have : (a + m * (v : Int)) % (p : Int) = (a % p + m % p * (v : Int)) % (p : Int) := by
      have e1 := Int.emod_add_mul_ediv a p
      have e2 := Int.emod_add_mul_ediv m p
      have e3 : a + m * (v : Int) = (a % p + m % p * (v : Int)) + (p : Int) * (a / p + m / p * (v : Int)) := by grind
      rw [e3, Int.add_mul_emod_self_left]
    rw [this]
theorem mulnz {p : Nat} (hp : pr6 p) {a m : Int} (hm : m % (p : Int) ≠ 0) (h : (m * a) % (p : Int) = 0) : a % (p : Int) = 0 := by
  have hp0 : 0 < p := by unfold pr6 at hp; omega
  have hpi : (0 : Int) < (p : Int) := by omega
  have a1 := Int.emod_nonneg a (show (p : Int) ≠ 0 by omega)
  have a2 := Int.emod_lt_of_pos a hpi
  have m1 := Int.emod_nonneg m (show (p : Int) ≠ 0 by omega)
  have m2 := Int.emod_lt_of_pos m hpi
  have g := (un_p hp).2
  unfold nz_P at g
  rw [List.all_eq_true] at g
  have g := g (a % p).toNat (List.mem_range.mpr (by omega))
  rw [List.all_eq_true] at g
  have g := g (m % p).toNat (List.mem_range.mpr (by omega))
  rw [Int.toNat_of_nonneg a1, Int.toNat_of_nonneg m1] at g
  rw [← Int.mul_emod] at g
  simp only [Bool.or_eq_true, decide_eq_true_eq, Bool.not_eq_true', decide_eq_false_iff_not] at g
  rcases g with (g | g) | g
  · omega
  · omega
  · exact absurd h g
/-! ===== a system of rows ===== -/
def lnr (M : Nat → Nat → Int) (r : Nat) (x : Nat → Int) : Int := sumN (fun j => M r j * x j) 48
def sat (p : Nat) (M : Nat → Nat → Int) (f n : Nat) (x : Nat → Int) : Prop := ∀ r, f ≤ r → r < n → lnr M r x % (p : Int) = 0
theorem lnr_up (M : Nat → Nat → Int) (r : Nat) (y : Nat → Int) {c : Nat} (hc : c < 48) (v : Int) : lnr M r (up y c v) = lnr M r y + M r c * (v - y c) := by
  unfold lnr
  have h1 := sumN_add (fun j => M r j * y j) (fun j => if j = c then M r c * (v - y c) else 0) 48
  rw [sumN_one (f := fun j => if j = c then M r c * (v - y c) else 0) (i := c) (fun j hj => if_neg hj), if_pos hc, if_pos rfl] at h1
  rw [← h1]
  refine sumN_congr (fun j _ => ?_)
  by_cases q : j = c
  · subst q
    rw [up_self, if_pos rfl, Int.mul_sub]
    omega
  · rw [up_ne q, if_neg q, Int.add_zero]
theorem emod_0 {p : Nat} {a b : Int} (hb : b % (p : Int) = 0) : (a + b) % (p : Int) = a % (p : Int) := by
  rw [Int.add_emod, hb, Int.add_zero, Int.emod_emod]
theorem mul_0 {p : Nat} {a b : Int} (ha : a % (p : Int) = 0) : (a * b) % (p : Int) = 0 := by
  rw [Int.mul_emod, ha, Int.zero_mul, Int.zero_emod]
theorem lnr_up0 {p : Nat} {M : Nat → Nat → Int} {r c : Nat} (hc : c < 48) (h : M r c % (p : Int) = 0) (y : Nat → Int) (v : Int) : lnr M r (up y c v) % (p : Int) = lnr M r y % (p : Int) := by
  rw [lnr_up M r y hc v]
  exact emod_0 (mul_0 h)
noncomputable def CNT (p : Nat) (M : Nat → Nat → Int) (f n c : Nat) : Int := cW p (48 - c) c (fun y => ift (sat p M f n y) 1 0) (fun _ => 0)
theorem cnt_np {p : Nat} {M : Nat → Nat → Int} {f n c : Nat} (hc : c < 48) (h : ∀ r, f ≤ r → r < n → M r c % (p : Int) = 0) : CNT p M f n c = (p : Int) * CNT p M f n (c + 1) := by
  unfold CNT
  rw [show 48 - c = (48 - (c + 1)) + 1 by omega]
  show cW p (48 - (c + 1)) (c + 1) (fun y => sumN (fun v => ift (sat p M f n (up y c (v : Int))) 1 0) p) _ = _
  rw [← cW_mul]
  have : (fun y : Nat → Int => sumN (fun v => ift (sat p M f n (up y c (v : Int))) 1 0) p) = (fun y => (p : Int) * ift (sat p M f n y) 1 0) := by
    funext y
    have e : ∀ v : Int, sat p M f n (up y c v) ↔ sat p M f n y := fun v => by
      refine ⟨fun w r h1 h2 => ?_, fun w r h1 h2 => ?_⟩
      · rw [← lnr_up0 hc (h r h1 h2) y v]; exact w r h1 h2
      · rw [lnr_up0 hc (h r h1 h2) y v]; exact w r h1 h2
    by_cases q : sat p M f n y
    · rw [ift_t q, sumN_congr (g := fun _ => 1) (fun v _ => ift_t ((e v).mpr q)), sumN_const1]
      omega
    · rw [ift_f q, sumN_congr (g := fun _ => 0) (fun v _ => ift_f (fun w => q ((e v).mp w))), sumN_zero]
      omega
  rw [this]
theorem cnt_pv {p : Nat} (hp : pr6 p) {M : Nat → Nat → Int} {f n c : Nat} (hc : c < 48) (hf : f < n) (h0 : M f c % (p : Int) ≠ 0) (h : ∀ r, f + 1 ≤ r → r < n → M r c % (p : Int) = 0) : CNT p M f n c = CNT p M (f + 1) n (c + 1) := by
  unfold CNT
  rw [show 48 - c = (48 - (c + 1)) + 1 by omega]
  show cW p (48 - (c + 1)) (c + 1) (fun y => sumN (fun v => ift (sat p M f n (up y c (v : Int))) 1 0) p) _ = _
  have : (fun y : Nat → Int => sumN (fun v => ift (sat p M f n (up y c (v : Int))) 1 0) p) = (fun y => ift (sat p M (f + 1) n y) 1 0) := by
    funext y
    have e : ∀ v : Int, sat p M f n (up y c v) ↔ ((lnr M f y - M f c * y c) + M f c * v) % (p : Int) = 0 ∧ sat p M (f + 1) n y := fun v => by
      have e0 : lnr M f (up y c v) = (lnr M f y - M f c * y c) + M f c * v := by
        rw [lnr_up M f y hc v, Int.mul_sub]
        omega
      refine ⟨fun w => ⟨by rw [← e0]; exact w f (Nat.le_refl f) hf, fun r h1 h2 => ?_⟩, fun w r h1 h2 => ?_⟩
      · rw [← lnr_up0 hc (h r h1 h2) y v]; exact w r (by omega) h2
      · by_cases q : r = f
        · rw [q, e0]; exact w.1
        · rw [lnr_up0 hc (h r (by omega) h2) y v]; exact w.2 r (by omega) h2
    by_cases q : sat p M (f + 1) n y
    · rw [ift_t q]
      refine Eq.trans (sumN_congr (fun v _ => ?_)) (uniq hp (lnr M f y - M f c * y c) (M f c) h0)
      by_cases q2 : ((lnr M f y - M f c * y c) + M f c * (v : Int)) % (p : Int) = 0
      · rw [if_pos q2, ift_t ((e v).mpr ⟨q2, q⟩)]
      · rw [if_neg q2, ift_f (fun w => q2 ((e v).mp w).1)]
    · rw [ift_f q, sumN_congr (g := fun _ => 0) (fun v _ => ift_f (fun w => q ((e v).mp w).2)), sumN_zero]
  rw [this]
theorem sat_0 {p : Nat} {M : Nat → Nat → Int} {f n : Nat} (h : ∀ r, f ≤ r → r < n → ∀ j, j < 48 → M r j % (p : Int) = 0) (y : Nat → Int) : sat p M f n y := by
  intro r h1 h2
  have key : ∀ k, k ≤ 48 → sumN (fun j => M r j * y j) k % (p : Int) = 0 := by
    intro k
    induction k with
    | zero => intro _; exact Int.zero_emod _
    | succ k ih =>
      intro hk
      show (sumN (fun j => M r j * y j) k + M r k * y k) % (p : Int) = 0
      rw [emod_0 (mul_0 (h r h1 h2 k (by omega)))]
      exact ih (by omega)
  exact key 48 (Nat.le_refl _)
theorem cnt_z {p : Nat} {M : Nat → Nat → Int} {f n c : Nat} (h : ∀ r, f ≤ r → r < n → ∀ j, j < 48 → M r j % (p : Int) = 0) : CNT p M f n c = ((p ^ (48 - c) : Nat) : Int) := by
  unfold CNT
  have : (fun y : Nat → Int => ift (sat p M f n y) 1 0) = (fun _ => 1) := by
    funext y
    exact ift_t (sat_0 h y)
  rw [this, cW_one]
theorem cnt_eq {p : Nat} {M M' : Nat → Nat → Int} {f n c : Nat} (h : ∀ y, sat p M f n y ↔ sat p M' f n y) : CNT p M f n c = CNT p M' f n c := by
  unfold CNT
  have : (fun y : Nat → Int => ift (sat p M f n y) 1 0) = (fun y => ift (sat p M' f n y) 1 0) := by
    funext y
    have : sat p M f n y = sat p M' f n y := propext (h y)
    rw [this]
  rw [this]
/-- a row mixed -/
theorem lnr_mix {p : Nat} {M M' : Nat → Nat → Int} {r r' s : Nat} {u k : Int} (h : ∀ j, j < 48 → M' r' j % (p : Int) = (u * M r j + k * M s j) % (p : Int)) (y : Nat → Int) : lnr M' r' y % (p : Int) = (u * lnr M r y + k * lnr M s y) % (p : Int) := by
  have key : ∀ n, n ≤ 48 → sumN (fun j => M' r' j * y j) n % (p : Int) = (u * sumN (fun j => M r j * y j) n + k * sumN (fun j => M s j * y j) n) % (p : Int) := by
    intro n
    induction n with
    | zero =>
      intro _
      show (0 : Int) % (p : Int) = (u * 0 + k * 0) % (p : Int)
      rw [Int.mul_zero, Int.mul_zero]
      rfl
    | succ n ih =>
      intro hn
      have ih := ih (by omega)
      have hn' := h n (by omega)
      show (sumN (fun j => M' r' j * y j) n + M' r' n * y n) % (p : Int) = (u * (sumN (fun j => M r j * y j) n + M r n * y n) + k * (sumN (fun j => M s j * y j) n + M s n * y n)) % (p : Int)
      rw [Int.add_emod, ih, Int.mul_emod, hn', ← Int.mul_emod, ← Int.add_emod]
      have : u * sumN (fun j => M r j * y j) n + k * sumN (fun j => M s j * y j) n + (u * M r n + k * M s n) * y n = u * (sumN (fun j => M r j * y j) n + M r n * y n) + k * (sumN (fun j => M s j * y j) n + M s n * y n) := by grind
      rw [this]
  exact key 48 (Nat.le_refl _)
/-- the rows below cleared by a row -/
theorem sat_mix {p : Nat} (hp : pr6 p) {M M' : Nat → Nat → Int} {f n : Nat} (hf : f < n) {uf : Int} (huf : uf % (p : Int) ≠ 0) (h1 : ∀ j, j < 48 → M' f j % (p : Int) = (uf * M f j) % (p : Int)) (h2 : ∀ r, f < r → r < n → ∃ u k : Int, u % (p : Int) ≠ 0 ∧ ∀ j, j < 48 → M' r j % (p : Int) = (u * M r j + k * M f j) % (p : Int)) (y : Nat → Int) : sat p M f n y ↔ sat p M' f n y := by
  have e0 : lnr M' f y % (p : Int) = (uf * lnr M f y) % (p : Int) := by
    have := lnr_mix (M := M) (M' := M') (r := f) (r' := f) (s := f) (u := uf) (k := 0) (p := p) (fun j hj => by rw [h1 j hj, Int.zero_mul, Int.add_zero]) y
    rw [this, Int.zero_mul, Int.add_zero]
  refine ⟨fun w r hr hn => ?_, fun w r hr hn => ?_⟩
  · have wf := w f (Nat.le_refl f) hf
    by_cases q : r = f
    · rw [q, e0, Int.mul_comm]
      exact mul_0 wf
    · obtain ⟨u, k, -, hu⟩ := h2 r (by omega) hn
      rw [lnr_mix hu y, Int.mul_comm k, emod_0 (mul_0 wf), Int.mul_comm]
      exact mul_0 (w r hr hn)
  · have wf : lnr M f y % (p : Int) = 0 := mulnz hp huf (by rw [← e0]; exact w f (Nat.le_refl f) hf)
    by_cases q : r = f
    · rw [q]; exact wf
    · obtain ⟨u, k, hu0, hu⟩ := h2 r (by omega) hn
      refine mulnz hp hu0 ?_
      have := w r hr hn
      rw [lnr_mix hu y, Int.mul_comm k, emod_0 (mul_0 wf)] at this
      exact this
theorem sat_swap {p : Nat} {M M' : Nat → Nat → Int} {f n a b : Nat} (ha : f ≤ a) (han : a < n) (hb : f ≤ b) (hbn : b < n) (h1 : ∀ j, j < 48 → M' a j = M b j) (h2 : ∀ j, j < 48 → M' b j = M a j) (h3 : ∀ r, r ≠ a → r ≠ b → ∀ j, j < 48 → M' r j = M r j) (y : Nat → Int) : sat p M f n y ↔ sat p M' f n y := by
  have l : ∀ r r', (∀ j, j < 48 → M' r j = M r' j) → lnr M' r y = lnr M r' y := fun r r' h => sumN_congr (fun j hj => by rw [h j hj])
  refine ⟨fun w r hr hn => ?_, fun w r hr hn => ?_⟩
  · by_cases q1 : r = a
    · rw [q1, l a b h1]; exact w b hb hbn
    · by_cases q2 : r = b
      · rw [q2, l b a h2]; exact w a ha han
      · rw [l r r (h3 r q1 q2)]; exact w r hr hn
  · by_cases q1 : r = a
    · rw [q1, ← l b a h2]; exact w b hb hbn
    · by_cases q2 : r = b
      · rw [q2, ← l a b h1]; exact w a ha han
      · rw [← l r r (h3 r q1 q2)]; exact w r hr hn
/-- any numbering gives one number -/
theorem nb_sort {N n : Nat} {D : (Nat → Nat) → Int} (hc : ∀ f g : Nat → Nat, (∀ c, c < N → f c = g c) → D f = D g) (hsw : ∀ (f : Nat → Nat) (p : Nat), (∀ c, c < N → f c < n) → p + 1 < n → D (fun c => sw p (f c)) = D f) {g : Nat → Nat} (hg : NB N n g) {f : Nat → Nat} (hf : NB N n f) (hfg : ∀ c c', c < N → c' < N → (f c = f c' ↔ g c = g c')) : D f = D g := by
  have P : ∀ k (f : Nat → Nat), NB N n f → (∀ c c', c < N → c' < N → (f c = f c' ↔ g c = g c')) → (∀ c, c < N → k ≤ g c → f c = g c) → D f = D g := by
    intro k
    induction k with
    | zero =>
      intro f _ _ h
      exact hc f g (fun c hc => h c hc (Nat.zero_le _))
    | succ k ih =>
      intro f hf hfg h
      rcases Nat.lt_or_ge k n with hk | hk
      · obtain ⟨c0, hc0, hgc⟩ := hg.2 k hk
        have R : ∀ j (f : Nat → Nat), NB N n f → (∀ c c', c < N → c' < N → (f c = f c' ↔ g c = g c')) → (∀ c, c < N → k + 1 ≤ g c → f c = g c) → f c0 + j = k → D f = D g := by
          intro j
          induction j with
          | zero =>
            intro f hf hfg h hj
            refine ih f hf hfg (fun c hc hkc => ?_)
            rcases Nat.lt_or_ge k (g c) with q | q
            · exact h c hc q
            · have : f c = f c0 := (hfg c c0 hc hc0).mpr (by omega)
              omega
          | succ j ihj =>
            intro f hf hfg h hj
            rw [← hsw f (f c0) hf.1 (by omega)]
            have s1 : sw (f c0) (f c0) = f c0 + 1 := by unfold sw; rw [if_pos rfl]
            refine ihj (fun c => sw (f c0) (f c)) ⟨fun c hc => ?_, fun v hv => ?_⟩ (fun c c' hc hc' => ?_) (fun c hc hkc => ?_) ?_
            · have := hf.1 c hc
              show sw (f c0) (f c) < n
              unfold sw
              split
              · omega
              · split <;> omega
            · obtain ⟨c, d1, d2⟩ := hf.2 (sw (f c0) v) (by unfold sw; split; omega; split <;> omega)
              exact ⟨c, d1, by show sw (f c0) (f c) = v; rw [d2, sw_sw]⟩
            · rw [← hfg c c' hc hc']
              exact ⟨fun q => by rw [← sw_sw (f c0) (f c), show sw (f c0) (f c) = sw (f c0) (f c') from q, sw_sw], fun q => by show sw (f c0) (f c) = sw (f c0) (f c'); rw [q]⟩
            · have := h c hc hkc
              show sw (f c0) (f c) = g c
              unfold sw
              rw [if_neg (by omega), if_neg (by omega), this]
            · show sw (f c0) (f c0) + j = k
              rw [s1]
              omega
        have hq : f c0 ≤ k := by
          rcases Nat.lt_or_ge k (f c0) with q | q
          · exfalso
            obtain ⟨c1, d1, d2⟩ := hg.2 (f c0) (hf.1 c0 hc0)
            have h1 := h c1 d1 (by omega)
            have h2 := (hfg c1 c0 d1 hc0).mp (by omega)
            omega
          · exact q
        exact R (k - f c0) f hf hfg h (by omega)
      · exact ih f hf hfg (fun c hc hkc => by have := hg.1 c hc; omega)
  exact P n f hf hfg (fun c hc hkc => by have := hg.1 c hc; omega)
