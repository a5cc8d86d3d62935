/-! ===== knots and crosses between them ===== -/
def bhd (R C e : Nat) : Nat := gcell R C e + (if gbel R C e = 1 then C else 1)
theorem bhd_D : ∀ R, R ≤ 4 → ∀ C, C ≤ 4 → ∀ e, e < gn R C → gcell R C e < R * C ∧ bhd R C e < R * C := by decide +kernel
def io (a p : Nat) : Int := if a = p then 1 else 0
def te (p q a b : Nat) : Int := (io a p - io a q) * (io b p - io b q)
def LM (G : GV) (f : Nat → Nat) (a b : Nat) : Int := sumN (fun e => if G.2.2 e = 0 ∨ G.2.2 e = 1 then te (f (gcell G.1 G.2.1 e)) (f (bhd G.1 G.2.1 e)) a b else 0) (gn G.1 G.2.1)
theorem LM_congr {G : GV} (hG : vG G) {f g : Nat → Nat} (h : ∀ c, c < G.1 * G.2.1 → f c = g c) (a b : Nat) : LM G f a b = LM G g a b := by
  refine sumN_congr (fun e he => ?_)
  obtain ⟨h1, h2⟩ := bhd_D _ hG.1.le.1 _ hG.1.le.2 e he
  rw [h _ h1, h _ h2]
theorem LM_symm (G : GV) (f : Nat → Nat) (a b : Nat) : LM G f a b = LM G f b a := by
  refine sumN_congr (fun e _ => ?_)
  unfold te
  rw [Int.mul_comm]
theorem io01 (a p : Nat) : (a = p ∧ io a p = 1) ∨ (a ≠ p ∧ io a p = 0) := by
  unfold io
  by_cases h : a = p
  · exact Or.inl ⟨h, if_pos h⟩
  · exact Or.inr ⟨h, if_neg h⟩
theorem te_off {p q a b : Nat} (h : a ≠ b) : te p q a b ≤ 0 := by
  unfold te
  rcases io01 a p with ⟨h1, e1⟩ | ⟨h1, e1⟩ <;> rcases io01 a q with ⟨h2, e2⟩ | ⟨h2, e2⟩ <;> rcases io01 b p with ⟨h3, e3⟩ | ⟨h3, e3⟩ <;> rcases io01 b q with ⟨h4, e4⟩ | ⟨h4, e4⟩ <;> rw [e1, e2, e3, e4] <;> first | decide | (exfalso; omega)
theorem te_diag (p q a : Nat) : 0 ≤ te p q a a ∧ te p q a a ≤ io a p + io a q := by
  unfold te
  rcases io01 a p with ⟨h1, e1⟩ | ⟨h1, e1⟩ <;> rcases io01 a q with ⟨h2, e2⟩ | ⟨h2, e2⟩ <;> rw [e1, e2] <;> decide
theorem io_sum {p n : Nat} (hp : p < n) : sumN (fun a => io a p) n = 1 := by
  rw [sumN_one (f := fun a => io a p) (i := p) (fun j hj => if_neg hj), if_pos hp]
  exact if_pos rfl
theorem te_sum {p q n : Nat} (hp : p < n) (hq : q < n) (a : Nat) : sumN (fun b => te p q a b) n = 0 := by
  unfold te
  rw [sumN_mul]
  have : sumN (fun b => io b p - io b q) n = 0 := by
    have h1 := sumN_add (fun b => io b p) (fun b => -1 * io b q) n
    rw [sumN_mul, io_sum hp, io_sum hq] at h1
    rw [sumN_congr (g := fun b => io b p + -1 * io b q) (fun b _ => by omega), h1]
    rfl
  rw [this, Int.mul_zero]
theorem LM_off {G : GV} {f : Nat → Nat} {a b : Nat} (h : a ≠ b) : LM G f a b ≤ 0 := by
  unfold LM
  have : ∀ n, sumN (fun e => if G.2.2 e = 0 ∨ G.2.2 e = 1 then te (f (gcell G.1 G.2.1 e)) (f (bhd G.1 G.2.1 e)) a b else 0) n ≤ 0 := by
    intro n
    induction n with
    | zero => exact Int.le_refl 0
    | succ n ih =>
      show sumN _ n + (if G.2.2 n = 0 ∨ G.2.2 n = 1 then te (f (gcell G.1 G.2.1 n)) (f (bhd G.1 G.2.1 n)) a b else 0) ≤ 0
      have := te_off (p := f (gcell G.1 G.2.1 n)) (q := f (bhd G.1 G.2.1 n)) h
      split <;> omega
  exact this _
theorem LM_sum {G : GV} (hG : vG G) {f : Nat → Nat} {n : Nat} (hf : ∀ c, c < G.1 * G.2.1 → f c < n) (a : Nat) : sumN (fun b => LM G f a b) n = 0 := by
  unfold LM
  rw [sumN_comm, sumN_congr (g := fun _ => 0) (fun e he => ?_), sumN_zero]
  obtain ⟨h1, h2⟩ := bhd_D _ hG.1.le.1 _ hG.1.le.2 e he
  by_cases c : G.2.2 e = 0 ∨ G.2.2 e = 1
  · rw [sumN_congr (g := fun b => te (f (gcell G.1 G.2.1 e)) (f (bhd G.1 G.2.1 e)) a b) (fun b _ => if_pos c)]
    exact te_sum (hf _ h1) (hf _ h2) a
  · rw [sumN_congr (g := fun _ => 0) (fun b _ => if_neg c), sumN_zero]
theorem sumN_le {f g : Nat → Int} : ∀ n, (∀ i, i < n → f i ≤ g i) → sumN f n ≤ sumN g n
  | 0, _ => Int.le_refl 0
  | n + 1, h => by
    show sumN f n + f n ≤ sumN g n + g n
    have := sumN_le n (fun i hi => h i (by omega))
    have := h n (by omega)
    omega
theorem LM_diag {G : GV} (hG : vG G) {f : Nat → Nat} (n : Nat) : (∀ a, 0 ≤ LM G f a a) ∧ sumN (fun a => LM G f a a) n ≤ 48 := by
  have hgn := gn_le _ hG.1.le.1 _ hG.1.le.2
  refine ⟨fun a => ?_, ?_⟩
  · have := sumN_le (f := fun _ => 0) (g := fun e => if G.2.2 e = 0 ∨ G.2.2 e = 1 then te (f (gcell G.1 G.2.1 e)) (f (bhd G.1 G.2.1 e)) a a else 0) (gn G.1 G.2.1) (fun e _ => by
      have := te_diag (f (gcell G.1 G.2.1 e)) (f (bhd G.1 G.2.1 e)) a
      (try dsimp only)
      split <;> omega)
    rw [sumN_zero] at this
    exact this
  · unfold LM
    rw [sumN_comm]
    have := sumN_le (g := fun _ => 2) (f := fun e => sumN (fun a => if G.2.2 e = 0 ∨ G.2.2 e = 1 then te (f (gcell G.1 G.2.1 e)) (f (bhd G.1 G.2.1 e)) a a else 0) n) (gn G.1 G.2.1) (fun e he => ?_)
    · have h2 := sumN_rg (f := fun _ => 2) (lo := 2) (hi := 2) (fun _ => ⟨Int.le_refl 2, Int.le_refl 2⟩) (gn G.1 G.2.1)
      omega
    · (try dsimp only)
      have h1 := sumN_le (f := fun a => if G.2.2 e = 0 ∨ G.2.2 e = 1 then te (f (gcell G.1 G.2.1 e)) (f (bhd G.1 G.2.1 e)) a a else 0) (g := fun a => io a (f (gcell G.1 G.2.1 e)) + io a (f (bhd G.1 G.2.1 e))) n (fun a _ => by
        have h1 := te_diag (f (gcell G.1 G.2.1 e)) (f (bhd G.1 G.2.1 e)) a
        (try dsimp only)
        split <;> omega)
      rw [sumN_add] at h1
      have io1 : ∀ p, sumN (fun a => io a p) n ≤ 1 := fun p => by
        rw [sumN_one (f := fun a => io a p) (i := p) (fun j hj => if_neg hj)]
        split
        · rw [show io p p = 1 from if_pos rfl]; omega
        · omega
      have := io1 (f (gcell G.1 G.2.1 e))
      have := io1 (f (bhd G.1 G.2.1 e))
      omega
/-! ===== any numbering of the knots gives one number ===== -/
def sw (p r : Nat) : Nat := if r = p then p + 1 else if r = p + 1 then p else r
theorem sw_sw (p r : Nat) : sw p (sw p r) = r := by
  unfold sw
  (repeat' split) <;> omega
theorem io_sw (p a x : Nat) : io a (sw p x) = io (sw p a) x := by
  unfold io
  by_cases h : a = sw p x
  · rw [if_pos h, if_pos (by rw [h, sw_sw])]
  · rw [if_neg h, if_neg (fun q => h (by rw [← q, sw_sw]))]
theorem LM_sw (G : GV) (f : Nat → Nat) (p a b : Nat) : LM G (fun c => sw p (f c)) a b = LM G f (sw p a) (sw p b) := by
  refine sumN_congr (fun e _ => ?_)
  unfold te
  rw [io_sw, io_sw, io_sw, io_sw]
theorem dt_sw {m p : Nat} (hp : p + 1 < m) (B : Nat → Nat → Int) : dt m (fun r c => B (sw p r) c) = -dt m B := by
  have e1 : (fun r c => B (sw p r) c) = up (up B p (B (p + 1))) (p + 1) (B p) := by
    funext r
    unfold sw
    by_cases c1 : r = p
    · rw [c1, up_ne (by omega), up_self, if_pos rfl]
    · by_cases c2 : r = p + 1
      · rw [c2, up_self, if_neg (by omega), if_pos rfl]
      · rw [up_ne c2, up_ne c1, if_neg c1, if_neg c2]
  have e2 : B = up (up B p (B p)) (p + 1) (B (p + 1)) := by
    funext r
    by_cases c2 : r = p + 1
    · rw [c2, up_self]
    · rw [up_ne c2]
      by_cases c1 : r = p
      · rw [c1, up_self]
      · rw [up_ne c1]
  rw [e1, dt_swap m p B hp, ← e2]
theorem dt_lst {m : Nat} (hm : 0 < m) {A : Nat → Nat → Int} (h : ∀ x, sumN (fun l => A l x) (m + 1) = 0) (g : Nat → Nat) : dt m (fun r c => A (if r = m - 1 then m else r) (g c)) = -dt m (fun r c => A r (g c)) := by
  have := dt_comb (n := m) (p := m - 1) (A := fun r c => A r (g c)) (by omega) (-1) (fun _ => -1) (m - 1) (Nat.le_refl _)
  rw [show -dt m (fun r c => A r (g c)) = -1 * dt m (fun r c => A r (g c)) by omega, ← this]
  refine dt_congr m (fun r c hr hc => ?_)
  by_cases q : r = m - 1
  · rw [q, up_self]
    (try dsimp only)
    rw [if_pos rfl, sumN_mul]
    have h1 := h (g c)
    have h2 : sumN (fun l => A l (g c)) (m + 1) = sumN (fun l => A l (g c)) m + A m (g c) := rfl
    have h3 : sumN (fun l => A l (g c)) m = sumN (fun l => A l (g c)) (m - 1) + A (m - 1) (g c) := by
      obtain ⟨m', rfl⟩ : ∃ m', m = m' + 1 := ⟨m - 1, by omega⟩
      rfl
    omega
  · rw [up_ne q]
    (try dsimp only)
    rw [if_neg q]
theorem D_sw {G : GV} (hG : vG G) {f : Nat → Nat} {n p : Nat} (hf : ∀ c, c < G.1 * G.2.1 → f c < n) (hp : p + 1 < n) : dt (n - 1) (LM G (fun c => sw p (f c))) = dt (n - 1) (LM G f) := by
  have e0 : LM G (fun c => sw p (f c)) = fun r c => LM G f (sw p r) (sw p c) := by
    funext a b
    exact LM_sw G f p a b
  rw [e0]
  rcases Nat.lt_or_ge (p + 1) (n - 1) with c | c
  · have h1 := dt_sw (m := n - 1) c (fun r c => LM G f r (sw p c))
    rw [h1, ← dt_tr]
    have h2 := dt_sw (m := n - 1) c (fun r c => LM G f c r)
    rw [h2, dt_tr (n - 1) (LM G f)]
    omega
  · have hm : p = n - 1 - 1 := by omega
    have hcol : ∀ x, sumN (fun l => LM G f l x) (n - 1 + 1) = 0 := fun x => by
      rw [show n - 1 + 1 = n by omega, sumN_congr (g := fun l => LM G f x l) (fun l _ => LM_symm G f l x)]
      exact LM_sum hG hf x
    have key : ∀ g : Nat → Nat, dt (n - 1) (fun r c => LM G f (sw p r) (g c)) = -dt (n - 1) (fun r c => LM G f r (g c)) := fun g => by
      rw [← dt_lst (m := n - 1) (by omega) hcol g]
      refine dt_congr _ (fun r c hr hc => ?_)
      have : sw p r = if r = n - 1 - 1 then n - 1 else r := by
        unfold sw
        rw [hm]
        by_cases q : r = n - 1 - 1
        · rw [if_pos q, if_pos q]; omega
        · rw [if_neg q, if_neg q, if_neg (by omega)]
      rw [this]
    rw [key, ← dt_tr]
    have h2 : dt (n - 1) (fun r c => LM G f c (sw p r)) = dt (n - 1) (fun r c => LM G f (sw p r) c) := dt_congr _ (fun r c _ _ => LM_symm G f _ _)
    rw [h2, key (fun c => c)]
    show - -dt (n - 1) (LM G f) = _
    omega
/-- a numbering of the cells' knots -/
def NB (N n : Nat) (f : Nat → Nat) : Prop := (∀ c, c < N → f c < n) ∧ ∀ v, v < n → ∃ c, c < N ∧ f c = v
theorem D_same {G : GV} (hG : vG G) {n : Nat} {g : Nat → Nat} (hg : NB (G.1 * G.2.1) n g) {f : Nat → Nat} (hf : NB (G.1 * G.2.1) n f) (hfg : ∀ c c', c < G.1 * G.2.1 → c' < G.1 * G.2.1 → (f c = f c' ↔ g c = g c')) : dt (n - 1) (LM G f) = dt (n - 1) (LM G g) := by
  have P : ∀ k (f : Nat → Nat), NB (G.1 * G.2.1) n f → (∀ c c', c < G.1 * G.2.1 → c' < G.1 * G.2.1 → (f c = f c' ↔ g c = g c')) → (∀ c, c < G.1 * G.2.1 → k ≤ g c → f c = g c) → dt (n - 1) (LM G f) = dt (n - 1) (LM G g) := by
    intro k
    induction k with
    | zero =>
      intro f _ _ h
      exact dt_congr _ (fun a b _ _ => LM_congr hG (fun c hc => h c hc (Nat.zero_le _)) a b)
    | succ k ih =>
      intro f hf hfg h
      rcases Nat.lt_or_ge k n with hk | hk
      · obtain ⟨c0, hc0, hgc⟩ := hg.2 k hk
        have R : ∀ j (f : Nat → Nat), NB (G.1 * G.2.1) n f → (∀ c c', c < G.1 * G.2.1 → c' < G.1 * G.2.1 → (f c = f c' ↔ g c = g c')) → (∀ c, c < G.1 * G.2.1 → k + 1 ≤ g c → f c = g c) → f c0 + j = k → dt (n - 1) (LM G f) = dt (n - 1) (LM G g) := by
          intro j
          induction j with
          | zero =>
            intro f hf hfg h hj
            refine ih f hf hfg (fun c hc hkc => ?_)
            rcases Nat.lt_or_ge k (g c) with q | q
            · exact h c hc q
            · have : f c = f c0 := (hfg c c0 hc hc0).mpr (by omega)
              omega
          | succ j ihj =>
            intro f hf hfg h hj
            rw [← D_sw hG hf.1 (p := f c0) (by omega)]
            have s1 : sw (f c0) (f c0) = f c0 + 1 := by unfold sw; rw [if_pos rfl]
            refine ihj (fun c => sw (f c0) (f c)) ⟨fun c hc => ?_, fun v hv => ?_⟩ (fun c c' hc hc' => ?_) (fun c hc hkc => ?_) ?_
            · have := hf.1 c hc
              show sw (f c0) (f c) < n
              unfold sw
              split
              · omega
              · split <;> omega
            · obtain ⟨c, d1, d2⟩ := hf.2 (sw (f c0) v) (by unfold sw; split; omega; split <;> omega)
              exact ⟨c, d1, by show sw (f c0) (f c) = v; rw [d2, sw_sw]⟩
            · rw [← hfg c c' hc hc']
              exact ⟨fun q => by rw [← sw_sw (f c0) (f c), show sw (f c0) (f c) = sw (f c0) (f c') from q, sw_sw], fun q => by show sw (f c0) (f c) = sw (f c0) (f c'); rw [q]⟩
            · have := h c hc hkc
              show sw (f c0) (f c) = g c
              unfold sw
              rw [if_neg (by omega), if_neg (by omega), this]
            · show sw (f c0) (f c0) + j = k
              rw [s1]
              omega
        have hq : f c0 ≤ k := by
          rcases Nat.lt_or_ge k (f c0) with q | q
          · exfalso
            obtain ⟨c1, d1, d2⟩ := hg.2 (f c0) (hf.1 c0 hc0)
            have h1 := h c1 d1 (by omega)
            have h2 := (hfg c1 c0 d1 hc0).mp (by omega)
            omega
          · exact q
        exact R (k - f c0) f hf hfg h (by omega)
      · exact ih f hf hfg (fun c hc hkc => by have := hg.1 c hc; omega)
  exact P n f hf hfg (fun c hc hkc => by have := hg.1 c hc; omega)
/-! ===== numbers of labels ===== -/
def rk (L : Nat → Nat) : Nat → Nat
  | 0 => 0
  | x + 1 => rk L x + (if L x = x then 1 else 0)
theorem rk_rp (L : Nat → Nat) : ∀ n, (rk L n : Int) = rpN L n
  | 0 => rfl
  | n + 1 => by
    show ((rk L n + (if L n = n then 1 else 0) : Nat) : Int) = rpN L n + (if L n = n then 1 else 0)
    rw [← rk_rp L n]
    split <;> omega
theorem rk_mono {L : Nat → Nat} {a b : Nat} (h : a ≤ b) : rk L a ≤ rk L b := by
  induction b with
  | zero => rw [show a = 0 by omega]; exact Nat.le_refl _
  | succ b ih =>
    rcases Nat.lt_or_ge b a with c | c
    · rw [show a = b + 1 by omega]; exact Nat.le_refl _
    · have := ih c
      show rk L a ≤ rk L b + _
      omega
theorem rk_lt {L : Nat → Nat} {a b : Nat} (h : a < b) (ha : L a = a) : rk L a < rk L b := by
  have h1 : rk L (a + 1) = rk L a + 1 := by
    show rk L a + (if L a = a then 1 else 0) = _
    rw [if_pos ha]
  have := rk_mono (L := L) (show a + 1 ≤ b by omega)
  omega
theorem rk_ex {L : Nat → Nat} {v : Nat} : ∀ n, v < rk L n → ∃ x, x < n ∧ L x = x ∧ rk L x = v
  | 0, h => absurd h (Nat.not_lt_zero v)
  | n + 1, h => by
    rcases Nat.lt_or_ge v (rk L n) with c | c
    · obtain ⟨x, x1, x2⟩ := rk_ex n c
      exact ⟨x, by omega, x2⟩
    · have h : v < rk L n + (if L n = n then 1 else 0) := h
      by_cases q : L n = n
      · rw [if_pos q] at h
        exact ⟨n, by omega, q, by omega⟩
      · rw [if_neg q] at h
        omega
theorem NB_rk {N : Nat} {L : Nat → Nat} (h : ∀ c, c < N → L c < N ∧ L (L c) = L c) : NB N (rk L N) (fun c => rk L (L c)) ∧ ∀ c c', c < N → c' < N → (rk L (L c) = rk L (L c') ↔ L c = L c') := by
  refine ⟨⟨fun c hc => rk_lt (h c hc).1 (h c hc).2, fun v hv => ?_⟩, fun c c' hc hc' => ⟨fun q => ?_, fun q => by rw [q]⟩⟩
  · obtain ⟨x, x1, x2, x3⟩ := rk_ex N hv
    exact ⟨x, x1, by show rk L (L x) = v; rw [x2, x3]⟩
  · have h1 := h c hc
    have h2 := h c' hc'
    rcases Nat.lt_trichotomy (L c) (L c') with d | d | d
    · have := rk_lt d h1.2; omega
    · exact d
    · have := rk_lt d h2.2; omega
/-- labels of cells joined by gaps -/
def GL (G : GV) (N : Nat) (L : Nat → Nat) : Prop := (∀ c, c < N → L c < N ∧ L (L c) = L c) ∧ (∀ e, e < gn G.1 G.2.1 → G.2.2 e = 3 → L (gcell G.1 G.2.1 e) = L (bhd G.1 G.2.1 e)) ∧ ∀ T : Nat → Nat, (∀ e, e < gn G.1 G.2.1 → G.2.2 e = 3 → T (gcell G.1 G.2.1 e) = T (bhd G.1 G.2.1 e)) → ∀ c, c < N → T (L c) = T c
theorem GL_same {G : GV} (hG : vG G) {K L : Nat → Nat} (hK : GL G (G.1 * G.2.1) K) (hL : GL G (G.1 * G.2.1) L) : rk K (G.1 * G.2.1) = rk L (G.1 * G.2.1) ∧ dt (rk K (G.1 * G.2.1) - 1) (LM G (fun c => rk K (K c))) = dt (rk L (G.1 * G.2.1) - 1) (LM G (fun c => rk L (L c))) := by
  obtain ⟨k1, k2⟩ := NB_rk hK.1
  obtain ⟨l1, l2⟩ := NB_rk hL.1
  have rel : ∀ c c', c < G.1 * G.2.1 → c' < G.1 * G.2.1 → (K c = K c' ↔ L c = L c') := by
    intro c c' hc hc'
    refine ⟨fun q => ?_, fun q => ?_⟩
    · rw [← hK.2.2 L hL.2.1 c hc, q, hK.2.2 L hL.2.1 c' hc']
    · rw [← hL.2.2 K hK.2.1 c hc, q, hL.2.2 K hK.2.1 c' hc']
  have en : rk K (G.1 * G.2.1) = rk L (G.1 * G.2.1) := by
    have := rp_cls (T := fun c => rk L (L c)) hK.1 l1.1 l1.2 (fun c c' hc hc' => (rel c c' hc hc').trans (l2 c c' hc hc').symm)
    rw [← rk_rp] at this
    omega
  refine ⟨en, ?_⟩
  rw [en]
  rw [en] at k1
  exact D_same hG l1 k1 (fun c c' hc hc' => (k2 c c' hc hc').trans ((rel c c' hc hc').trans (l2 c c' hc hc').symm))
/-- what trees answers -/
def TRE (G : GV) (L : Nat → Nat) : Int := dt (rk L (G.1 * G.2.1) - 1) (LM G (fun c => rk L (L c)))
