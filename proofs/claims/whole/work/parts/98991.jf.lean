/-! ===== a run of joins ===== -/
/-- how many ends are free -/
noncomputable def opN (N : Nat) (op : Nat → Prop) : Int := sumN (fun x => ift (op x) 1 0) (2 * N)
theorem opN_less {N : Nat} {op : Nat → Prop} {x y : Nat} (hx : op x) (hy : op y) (hxN : x < 2 * N) (hyN : y < 2 * N) (hne : x ≠ y) : opN N (opL op x y) = opN N op - 2 := by
  have e : opN N op = sumN (fun z => ((ift (opL op x y z) 1 0) + (if z = x then 1 else 0)) + (if z = y then 1 else 0)) (2 * N) := by
    refine sumN_congr (fun z hz => ?_)
    by_cases q1 : z = x
    · have n1 : ¬ opL op x y z := fun w => w.2.1 q1
      have n2 : ¬ z = y := fun w => hne (q1.symm.trans w)
      rw [ift_f n1, if_pos q1, if_neg n2, ift_t (by rw [q1]; exact hx)]
      rfl
    · by_cases q2 : z = y
      · have n1 : ¬ opL op x y z := fun w => w.2.2 q2
        rw [ift_f n1, if_neg q1, if_pos q2, ift_t (by rw [q2]; exact hy)]
        rfl
      · rw [if_neg q1, if_neg q2]
        by_cases q3 : op z
        · rw [ift_t q3, ift_t (show opL op x y z from ⟨q3, q1, q2⟩)]
          rfl
        · rw [ift_f q3, ift_f (show ¬ opL op x y z from fun w => q3 w.1)]
          rfl
  rw [e, sumN_add, sumN_add, sumN_one (f := fun z => if z = x then 1 else 0) (i := x) (fun j hj => if_neg hj), sumN_one (f := fun z => if z = y then 1 else 0) (i := y) (fun j hj => if_neg hj), if_pos hxN, if_pos hyN, if_pos rfl, if_pos rfl]
  show opN N (opL op x y) = opN N (opL op x y) + 1 + 1 - 2
  omega
/-- mates, labels, closed loops -/
abbrev JT : Type := (Nat → Nat) × (Nat → Nat) × Int
def jst (s : JT) (p : Nat × Nat) : JT := if s.1 p.1 = p.2 then (s.1, s.2.1, s.2.2 + 1) else (muM s.1 p.1 p.2, lbM s.2.1 p.1 p.2, s.2.2)
def JS (N : Nat) (op : Nat → Prop) (P : List (Nat × Nat)) (s : JT) : Prop := JI N op s.1 s.2.1 ∧ s.2.2 = rpN s.2.1 N - N + P.length ∧ opN N op + 2 * P.length = 2 * N ∧ (∀ p ∈ P, s.2.1 (p.1 / 2) = s.2.1 (p.2 / 2)) ∧ (∀ T : Nat → Int, (∀ p ∈ P, T (p.1 / 2) = T (p.2 / 2)) → ∀ c, c < N → T (s.2.1 c) = T c) ∧ (∀ x, x < 2 * N → op x ∨ ∃ p ∈ P, p.1 = x ∨ p.2 = x)
theorem JS.congr {N : Nat} {op op' : Nat → Prop} {P : List (Nat × Nat)} {s : JT} (h : JS N op P s) (e : ∀ x, op' x ↔ op x) : JS N op' P s := by
  have : op' = op := funext (fun x => propext (e x))
  rw [this]
  exact h
theorem JS.step {N : Nat} {op : Nat → Prop} {P : List (Nat × Nat)} {s : JT} (h : JS N op P s) {x y : Nat} (hx : op x) (hy : op y) (hne : x ≠ y) : JS N (opL op x y) ((x, y) :: P) (jst s (x, y)) := by
  obtain ⟨h1, h2, h3, h4, h5, h6⟩ := h
  have hxN := (h1.2.1 x hx).1
  have hyN := (h1.2.1 y hy).1
  have o1 : opN N (opL op x y) + 2 * (((x, y) :: P).length : Int) = 2 * N := by
    rw [opN_less hx hy hxN hyN hne, List.length_cons]
    omega
  have o2 : ∀ z, z < 2 * N → opL op x y z ∨ ∃ p ∈ (x, y) :: P, p.1 = z ∨ p.2 = z := by
    intro z hz
    by_cases q1 : z = x
    · exact Or.inr ⟨(x, y), List.mem_cons_self, Or.inl q1.symm⟩
    · by_cases q2 : z = y
      · exact Or.inr ⟨(x, y), List.mem_cons_self, Or.inr q2.symm⟩
      · rcases h6 z hz with c | ⟨p, hp, c⟩
        · exact Or.inl ⟨c, q1, q2⟩
        · exact Or.inr ⟨p, List.mem_cons_of_mem _ hp, c⟩
  unfold jst
  dsimp only
  by_cases he : s.1 x = y
  · rw [if_pos he]
    have hL : s.2.1 (x / 2) = s.2.1 (y / 2) := (h1.2.2 x y hx hy).mpr (Or.inr he.symm)
    refine ⟨h1.close hx he, ?_, o1, fun p hp => ?_, fun T hT => h5 T (fun p hp => hT p (List.mem_cons_of_mem _ hp)), o2⟩
    · show s.2.2 + 1 = rpN s.2.1 N - N + (((x, y) :: P).length : Int)
      rw [List.length_cons]
      omega
    · rcases List.mem_cons.mp hp with c | c
      · rw [c]; exact hL
      · exact h4 p c
  · rw [if_neg he]
    refine ⟨h1.merge hx hy hne he, ?_, o1, fun p hp => ?_, fun T hT c hc => ?_, o2⟩
    · show s.2.2 = rpN (lbM s.2.1 x y) N - N + (((x, y) :: P).length : Int)
      rw [List.length_cons, h1.rep hx hy hne he]
      omega
    · show lbM s.2.1 x y (p.1 / 2) = lbM s.2.1 x y (p.2 / 2)
      unfold lbM
      rcases List.mem_cons.mp hp with c | c
      · rw [c]
        dsimp only
        rw [if_pos rfl]
        by_cases q : s.2.1 (x / 2) = s.2.1 (y / 2)
        · rw [if_pos q]
        · rw [if_neg q]
      · rw [h4 p c]
    · show T (lbM s.2.1 x y c) = T c
      have hT' := h5 T (fun p hp => hT p (List.mem_cons_of_mem _ hp))
      have hxy : T (x / 2) = T (y / 2) := hT (x, y) List.mem_cons_self
      unfold lbM
      by_cases q : s.2.1 c = s.2.1 (y / 2)
      · rw [if_pos q, hT' (x / 2) (by omega), hxy, ← hT' (y / 2) (by omega), ← q, hT' c hc]
      · rw [if_neg q, hT' c hc]
/-- the start -/
def js0 : JT := (fun x => if x % 2 = 0 then x + 1 else x - 1, fun c => c, 0)
theorem JS.start (N : Nat) : JS N (fun x => x < 2 * N) [] js0 := by
  refine ⟨⟨fun c hc => ⟨hc, rfl⟩, fun x hx => ?_, fun x y hx hy => ?_⟩, ?_, ?_, fun p hp => (nomatch hp), fun T _ c _ => rfl, fun x hx => Or.inl hx⟩
  · show x < 2 * N ∧ (if x % 2 = 0 then x + 1 else x - 1) < 2 * N ∧ (if x % 2 = 0 then x + 1 else x - 1) ≠ x ∧ (if (if x % 2 = 0 then x + 1 else x - 1) % 2 = 0 then (if x % 2 = 0 then x + 1 else x - 1) + 1 else (if x % 2 = 0 then x + 1 else x - 1) - 1) = x
    have hx : x < 2 * N := hx
    by_cases q : x % 2 = 0
    · rw [if_pos q, if_neg (by omega)]
      omega
    · rw [if_neg q, if_pos (by omega)]
      omega
  · show x / 2 = y / 2 ↔ y = x ∨ y = (if x % 2 = 0 then x + 1 else x - 1)
    by_cases q : x % 2 = 0
    · rw [if_pos q]
      omega
    · rw [if_neg q]
      omega
  · show (0 : Int) = rpN (fun c => c) N - N + 0
    have : rpN (fun c => c) N = (N : Int) := by
      rw [← sumN_const1 N]
      exact sumN_congr (fun c _ => if_pos rfl)
    omega
  · show opN N (fun x => x < 2 * N) + 2 * 0 = 2 * N
    have : opN N (fun x => x < 2 * N) = ((2 * N : Nat) : Int) := by
      rw [← sumN_const1 (2 * N)]
      exact sumN_congr (fun x hx => ift_t hx)
    omega
/-- all ends joined: the loops closed are the classes -/
theorem JS.all {N : Nat} {op : Nat → Prop} {P : List (Nat × Nat)} {s : JT} (h : JS N op P s) (ho : ∀ x, ¬ op x) {S : Nat} {T : Nat → Int} (t1 : ∀ p ∈ P, T (p.1 / 2) = T (p.2 / 2)) (t2 : ∀ c, c < N → 0 ≤ T c ∧ T c < S) (t3 : ∀ s : Nat, s < S → ∃ c, c < N ∧ T c = (s : Int)) (t4 : ∀ L : Nat → Nat, (∀ p ∈ P, L (p.1 / 2) = L (p.2 / 2)) → ∀ c c', c < N → c' < N → T c = T c' → L c = L c') : s.2.2 = (S : Int) := by
  obtain ⟨h1, h2, h3, h4, h5, h6⟩ := h
  have z : opN N op = 0 := by
    unfold opN
    rw [sumN_congr (g := fun _ => 0) (fun x _ => ift_f (ho x)), sumN_zero]
  have r : rpN s.2.1 N = (S : Int) := by
    refine rp_cls (T := fun c => (T c).toNat) h1.1 (fun c hc => ?_) (fun i hi => ?_) (fun c c' hc hc' => ⟨fun q => ?_, fun q => ?_⟩)
    · have := t2 c hc
      show (T c).toNat < S
      omega
    · obtain ⟨c, c1, c2⟩ := t3 i hi
      refine ⟨c, c1, ?_⟩
      show (T c).toNat = i
      omega
    · show (T c).toNat = (T c').toNat
      rw [← h5 T t1 c hc, q, h5 T t1 c' hc']
    · refine t4 _ h4 c c' hc hc' ?_
      have a1 := t2 c hc
      have a2 := t2 c' hc'
      have q : (T c).toNat = (T c').toNat := q
      omega
  omega
