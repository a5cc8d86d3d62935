/-! ===== tokens of a tape; the class's scan ===== -/
def skF (P : Int → Bool) (tp : List Int) : Nat → Nat → Nat
  | 0, p => p
  | f + 1, p => if p < tp.length ∧ P (tp.getD p 0) = true then skF P tp f (p + 1) else p
def sk (P : Int → Bool) (tp : List Int) (p : Nat) : Nat := skF P tp (tp.length - p) p
theorem sk_t {P : Int → Bool} {tp : List Int} {p : Nat} (h1 : p < tp.length) (h2 : P (tp.getD p 0) = true) : sk P tp p = sk P tp (p + 1) := by
  unfold sk
  rw [show tp.length - p = (tp.length - (p + 1)) + 1 by omega]
  exact if_pos ⟨h1, h2⟩
theorem sk_f {P : Int → Bool} {tp : List Int} {p : Nat} (h : ¬ (p < tp.length ∧ P (tp.getD p 0) = true)) : sk P tp p = p := by
  unfold sk
  cases tp.length - p with
  | zero => rfl
  | succ f => exact if_neg h
theorem sk_rg {P : Int → Bool} {tp : List Int} : ∀ (d p : Nat), p + d = tp.length → p ≤ sk P tp p ∧ sk P tp p ≤ tp.length
  | 0, p, h => by
    rw [sk_f (fun q => by omega)]
    omega
  | d + 1, p, h => by
    by_cases c : p < tp.length ∧ P (tp.getD p 0) = true
    · rw [sk_t c.1 c.2]
      have := sk_rg (P := P) (tp := tp) d (p + 1) (by omega)
      omega
    · rw [sk_f c]
      omega
theorem sk_le {P : Int → Bool} {tp : List Int} {p : Nat} (h : p ≤ tp.length) : p ≤ sk P tp p ∧ sk P tp p ≤ tp.length := sk_rg (tp.length - p) p (by omega)
/-- where it stops, it has a reason -/
theorem sk_end {P : Int → Bool} {tp : List Int} : ∀ (d p : Nat), p + d = tp.length → sk P tp p < tp.length → P (tp.getD (sk P tp p) 0) = false
  | 0, p, h, hl => by
    rw [sk_f (fun q => by omega)] at hl
    omega
  | d + 1, p, h, hl => by
    by_cases c : p < tp.length ∧ P (tp.getD p 0) = true
    · rw [sk_t c.1 c.2] at hl ⊢
      exact sk_end d (p + 1) (by omega) hl
    · rw [sk_f c] at hl ⊢
      cases q : P (tp.getD p 0)
      · rfl
      · exact absurd ⟨hl, q⟩ c
def mn1 (x : Int) : Int := if 1000 ≤ x then 1000 else x
def wsB (z : Int) : Bool := decide (z = 32 ∨ z = 10)
def ltB (z : Int) : Bool := decide (97 ≤ z ∧ z ≤ 122)
def dgB (z : Int) : Bool := decide (48 ≤ z ∧ z ≤ 57)
def nvF (tp : List Int) : Nat → Nat → Int → Int
  | 0, _, v => v
  | f + 1, p, v => if p < tp.length ∧ dgB (tp.getD p 0) = true then nvF tp f (p + 1) (mn1 (10 * v + tp.getD p 0 - 48)) else v
def nv (tp : List Int) (p : Nat) (v : Int) : Int := nvF tp (tp.length - p) p v
theorem nv_t {tp : List Int} {p : Nat} {v : Int} (h1 : p < tp.length) (h2 : dgB (tp.getD p 0) = true) : nv tp p v = nv tp (p + 1) (mn1 (10 * v + tp.getD p 0 - 48)) := by
  unfold nv
  rw [show tp.length - p = (tp.length - (p + 1)) + 1 by omega]
  exact if_pos ⟨h1, h2⟩
theorem nv_f {tp : List Int} {p : Nat} {v : Int} (h : ¬ (p < tp.length ∧ dgB (tp.getD p 0) = true)) : nv tp p v = v := by
  unfold nv
  cases tp.length - p with
  | zero => rfl
  | succ f => exact if_neg h
theorem nv_rg {tp : List Int} : ∀ (d p : Nat) (v : Int), p + d = tp.length → 0 ≤ v ∧ v ≤ 1000 → 0 ≤ nv tp p v ∧ nv tp p v ≤ 1000
  | 0, p, v, h, hv => by
    rw [nv_f (fun q => by omega)]
    exact hv
  | d + 1, p, v, h, hv => by
    by_cases c : p < tp.length ∧ dgB (tp.getD p 0) = true
    · rw [nv_t c.1 c.2]
      have hd := c.2
      unfold dgB at hd
      rw [decide_eq_true_eq] at hd
      refine nv_rg d (p + 1) _ (by omega) ?_
      unfold mn1
      split <;> omega
    · rw [nv_f c]
      exact hv
/-- a word is a text -/
def spW (tp : List Int) (b q n : Nat) : Prop := q - b = (tx n).length ∧ ∀ i, i < (tx n).length → tp.getD (b + i) 0 = (tx n).getD i 0
noncomputable def wn (tp : List Int) (b q : Nat) : Int := ift (spW tp b q 0) 0 (ift (spW tp b q 1) 1 (ift (spW tp b q 2) 2 (ift (spW tp b q 3) 3 (ift (spW tp b q 4) 4 (ift (spW tp b q 5) 5 (-1))))))
/-- a token: where it begins, its sort, where it stops, its value -/
def kb (tp : List Int) (p : Nat) : Nat := sk wsB tp p
def kst (tp : List Int) (p : Nat) : Nat := if kb tp p < tp.length then (if ltB (tp.getD (kb tp p) 0) = true then 1 else if dgB (tp.getD (kb tp p) 0) = true then 2 else 3) else 0
def kq (tp : List Int) (p : Nat) : Nat := if kb tp p < tp.length then (if ltB (tp.getD (kb tp p) 0) = true then sk ltB tp (kb tp p) else if dgB (tp.getD (kb tp p) 0) = true then sk dgB tp (kb tp p) else kb tp p + 1) else kb tp p
noncomputable def kv (tp : List Int) (p : Nat) : Int := if kst tp p = 1 then wn tp (kb tp p) (kq tp p) else if kst tp p = 2 then nv tp (kb tp p) 0 else Int.bmod (tp.getD (kb tp p) 0) 256
theorem kq_gt {tp : List Int} {p : Nat} (hp : p ≤ tp.length) : kb tp p ≤ tp.length ∧ p ≤ kb tp p ∧ kq tp p ≤ tp.length ∧ kb tp p ≤ kq tp p ∧ (kst tp p ≠ 0 → kb tp p < kq tp p ∧ kb tp p < tp.length) := by
  have h1 := sk_le (P := wsB) hp
  have h1 : p ≤ kb tp p ∧ kb tp p ≤ tp.length := h1
  unfold kq kst
  by_cases c : kb tp p < tp.length
  · rw [if_pos c, if_pos c]
    by_cases c1 : ltB (tp.getD (kb tp p) 0) = true
    · rw [if_pos c1, sk_t c c1]
      have := sk_le (P := ltB) (p := kb tp p + 1) (tp := tp) (by omega)
      exact ⟨by omega, by omega, by omega, by omega, fun _ => ⟨by omega, c⟩⟩
    · rw [if_neg c1]
      by_cases c2 : dgB (tp.getD (kb tp p) 0) = true
      · rw [if_pos c2, sk_t c c2]
        have := sk_le (P := dgB) (p := kb tp p + 1) (tp := tp) (by omega)
        exact ⟨by omega, by omega, by omega, by omega, fun _ => ⟨by omega, c⟩⟩
      · rw [if_neg c2]
        exact ⟨by omega, by omega, by omega, by omega, fun _ => ⟨by omega, c⟩⟩
  · rw [if_neg c, if_neg c]
    exact ⟨by omega, by omega, by omega, by omega, fun q => absurd rfl q⟩
def TPl (m : MM) (tp : List Int) : Prop := m 99 1 = (tp.length : Int) ∧ tp.length ≤ 400 ∧ ∀ i, i < tp.length → m 100 i = Int.bmod (tp.getD i 0) 256 ∧ 0 ≤ tp.getD i 0 ∧ tp.getD i 0 < 256
theorem TPl.up {m : MM} {tp : List Int} {F : Nat → Int} (h : TPl m tp) (hF : F 1 = m 99 1) : TPl (up m 99 F) tp := by
  refine ⟨by rw [up_self, hF]; exact h.1, h.2.1, fun i hi => ?_⟩
  rw [up_ne (by decide)]
  exact h.2.2 i hi
theorem sbm {z : Int} (h : 0 ≤ z ∧ z < 256) : Int.bmod z 256 = if z < 128 then z else z - 256 := by
  by_cases c : z < 128
  · rw [if_pos c]
    exact Int.bmod_eq_of_le (by omega) (by omega)
  · rw [if_neg c]
    have : Int.bmod z 256 = Int.bmod (z - 256) 256 := by rw [show (256 : Int) = ((256 : Nat) : Int) from rfl, Int.sub_bmod_right]
    rw [this]
    exact Int.bmod_eq_of_le (by omega) (by omega)
section SC
variable {E : am_E} {k : Nat} {m : MM} {γ : GM} {t : am_H} {tp : List Int}
theorem S_byteAt6 {Q : Int → MM → GM → am_H → Prop} {x : Int} (i : Nat) (hx : x = (i : Int)) (h : TPl m tp) (hi : i < tp.length) (hQ : Q (Int.bmod (tp.getD i 0) 256) m γ t) : TI E k 81 [.ref 99, .int (iI x)] m γ t Q := by
  subst hx
  have h2 := h.2.1
  refine vc_X6_byteAt (by omega) ⟨fun c => absurd c (by omega), fun _ => ⟨fun _ => ⟨fun _ => ⟨by omega, ?_⟩, fun c => absurd (by omega) c⟩, fun c => absurd (by rw [h.1]; omega) c⟩⟩
  rw [Int.toNat_natCast, (h.2.2 i hi).1]
  exact hQ
theorem S_isLetter {Q : Int → MM → GM → am_H → Prop} {x : Int} (i : Nat) (hx : x = (i : Int)) (h : TPl m tp) (hi : i < tp.length) (q1 : ltB (tp.getD i 0) = true → Q 1 m γ t) (q0 : ltB (tp.getD i 0) = false → Q 0 m γ t) : TI E (k + 1) 82 [.ref 99, .int (iI x)] m γ t Q := by
  have hz := (h.2.2 i hi).2
  have h4 := h.2.1
  have hb := sbm hz
  unfold ltB at q1 q0
  refine vc_X6_isLetter (by omega) (S_byteAt6 i hx h hi ⟨fun c => q0 (decide_eq_false (fun z => ?_)), fun c => S_byteAt6 i hx h hi ⟨fun c2 => q1 (decide_eq_true ?_), fun c2 => q0 (decide_eq_false (fun z => ?_))⟩⟩)
  · split at hb <;> omega
  · split at hb <;> omega
  · split at hb <;> omega
theorem S_isDigit {Q : Int → MM → GM → am_H → Prop} {x : Int} (i : Nat) (hx : x = (i : Int)) (h : TPl m tp) (hi : i < tp.length) (q1 : dgB (tp.getD i 0) = true → Q 1 m γ t) (q0 : dgB (tp.getD i 0) = false → Q 0 m γ t) : TI E (k + 1) 83 [.ref 99, .int (iI x)] m γ t Q := by
  have hz := (h.2.2 i hi).2
  have h4 := h.2.1
  have hb := sbm hz
  unfold dgB at q1 q0
  refine vc_X6_isDigit (by omega) (S_byteAt6 i hx h hi ⟨fun c => q0 (decide_eq_false (fun z => ?_)), fun c => S_byteAt6 i hx h hi ⟨fun c2 => q1 (decide_eq_true ?_), fun c2 => q0 (decide_eq_false (fun z => ?_))⟩⟩)
  · split at hb <;> omega
  · split at hb <;> omega
  · split at hb <;> omega
theorem S_spells {Q : Int → MM → GM → am_H → Prop} (n b q : Nat) (hE : EV E) (hn : n < 27) (h : TPl m tp) (hb : m 99 4 = (b : Int)) (hq : m 99 5 = (q : Int)) (hbq : b ≤ q) (hql : q ≤ tp.length) (q1 : spW tp b q n → Q 1 m γ t) (q0 : ¬ spW tp b q n → Q 0 m γ t) : TI E (k + 4) 88 [.ref 99, .ref (1000000 + 2 * n)] m γ t Q := by
  have h6 := tx_len6 hn
  have h4 := h.2.1
  refine vc_X6_spells ⟨n, hn, rfl⟩ (S_length hn ?_)
  rw [hb, hq]
  refine ⟨by omega, fun c => ?_, fun c => q0 (fun z => c (by have := z.1; omega))⟩
  have hlen : q - b = (tx n).length := by omega
  refine upN (n := (tx n).length) (P := fun j => (∀ i, i < j → tp.getD (b + i) 0 = (tx n).getD i 0) → hd_X6_spells_20 E (k + 3) (1000000 + 2 * n) (j : Int) m γ t Q) (fun hj => ?_) (fun j hj ih => fun hjj => ?_) 0 (Nat.zero_le _) (fun i hi => absurd hi (Nat.not_lt_zero i))
  · exact vc_X6_spells_20 ⟨n, hn, rfl⟩ (by omega) (S_length hn ⟨fun c => absurd c (by omega), fun _ => q1 ⟨hlen, hj⟩⟩)
  · refine vc_X6_spells_20 ⟨n, hn, rfl⟩ (by omega) (S_length hn ⟨fun _ => ?_, fun c => absurd (by omega) c⟩)
    rw [hb]
    have hz := (h.2.2 (b + j) (by omega)).2
    have hbm := sbm hz
    refine S_byteAt6 (b + j) (by omega) h (by omega) (S_charAt hE hn hj (fun hc => ⟨fun e => ih (fun i hi => ?_), fun e => q0 (fun z => e ?_)⟩))
    · by_cases d : i = j
      · rw [d]
        split at hbm <;> omega
      · exact hjj i (by omega)
    · have := z.2 j hj
      split at hbm <;> omega
theorem S_wordNumber {Q : Int → MM → GM → am_H → Prop} (b q : Nat) (hE : EV E) (h : TPl m tp) (hb : m 99 4 = (b : Int)) (hq : m 99 5 = (q : Int)) (hbq : b ≤ q) (hql : q ≤ tp.length) (hQ : Q (wn tp b q) m γ t) : TI E (k + 5) 87 [.ref 99] m γ t Q := by
  unfold wn at hQ
  refine vc_X6_wordNumber (S_spells 0 b q hE (by decide) h hb hq hbq hql (fun c => b1 (by rw [ift_t c] at hQ; exact hQ)) (fun c0 => b0 ?_))
  rw [ift_f c0] at hQ
  refine S_spells 1 b q hE (by decide) h hb hq hbq hql (fun c => b1 (by rw [ift_t c] at hQ; exact hQ)) (fun c1 => b0 ?_)
  rw [ift_f c1] at hQ
  refine S_spells 2 b q hE (by decide) h hb hq hbq hql (fun c => b1 (by rw [ift_t c] at hQ; exact hQ)) (fun c2 => b0 ?_)
  rw [ift_f c2] at hQ
  refine S_spells 3 b q hE (by decide) h hb hq hbq hql (fun c => b1 (by rw [ift_t c] at hQ; exact hQ)) (fun c3 => b0 ?_)
  rw [ift_f c3] at hQ
  refine S_spells 4 b q hE (by decide) h hb hq hbq hql (fun c => b1 (by rw [ift_t c] at hQ; exact hQ)) (fun c4 => b0 ?_)
  rw [ift_f c4] at hQ
  refine S_spells 5 b q hE (by decide) h hb hq hbq hql (fun c => b1 (by rw [ift_t c] at hQ; exact hQ)) (fun c5 => b0 ?_)
  rw [ift_f c5] at hQ
  exact hQ
theorem wn_rg (tp : List Int) (b q : Nat) : -1 ≤ wn tp b q ∧ wn tp b q ≤ 5 := by
  unfold wn
  by_cases c0 : spW tp b q 0
  · rw [ift_t c0]; omega
  · rw [ift_f c0]
    by_cases c1 : spW tp b q 1
    · rw [ift_t c1]; omega
    · rw [ift_f c1]
      by_cases c2 : spW tp b q 2
      · rw [ift_t c2]; omega
      · rw [ift_f c2]
        by_cases c3 : spW tp b q 3
        · rw [ift_t c3]; omega
        · rw [ift_f c3]
          by_cases c4 : spW tp b q 4
          · rw [ift_t c4]; omega
          · rw [ift_f c4]
            by_cases c5 : spW tp b q 5
            · rw [ift_t c5]; omega
            · rw [ift_f c5]; omega
/-- only these fields -/
def f47 (F G : Nat → Int) : Prop := ∀ j, ¬ (4 ≤ j ∧ j ≤ 7) → G j = F j
theorem S_scanWord {Q : MM → GM → am_H → Prop} (b : Nat) (hE : EV E) (h : TPl m tp) (hb : m 99 4 = (b : Int)) (hbl : b < tp.length) (h5 : m 99 5 = (b : Int)) (hl : ltB (tp.getD b 0) = true) (hQ : ∀ F, f47 (m 99) F → F 4 = (b : Int) → F 5 = (sk ltB tp b : Int) → F 6 = 1 → F 7 = wn tp b (sk ltB tp b) → Q (up m 99 F) γ t) : TV E (k + 6) 85 [.ref 99] m γ t Q := by
  have h4 := h.2.1
  -- the end of the word
  have fin : ∀ (F : Nat → Int), f47 (m 99) F → F 4 = (b : Int) → F 5 = (sk ltB tp b : Int) → TI E (k + 5) 87 [.ref 99] (up (up m 99 F) 99 (up F 6 1)) γ t (fun v10 m10 γ10 t10 => Q (up m10 99 (up (m10 99) 7 v10)) γ10 t10) := by
    intro F f1 f2 f3
    have hs := sk_le (P := ltB) (p := b) (tp := tp) (by omega)
    rw [up_up]
    refine S_wordNumber (tp := tp) b (sk ltB tp b) hE (h.up (by rw [up_ne (by decide)]; exact f1 1 (by decide))) (by rw [up_self, up_ne (by decide)]; exact f2) (by rw [up_self, up_ne (by decide)]; exact f3) hs.1 hs.2 ?_
    rw [up_self, up_up]
    refine hQ _ (fun j hj => ?_) (by rw [up_ne (by decide), up_ne (by decide)]; exact f2) (by rw [up_ne (by decide), up_ne (by decide)]; exact f3) (by rw [up_ne (by decide), up_self]) (by rw [up_self])
    rw [up_ne (by omega), up_ne (by omega)]
    exact f1 j hj
  have loop : ∀ (d p : Nat), p + d = tp.length → ∀ F : Nat → Int, f47 (m 99) F → F 4 = (b : Int) → F 5 = (p : Int) → sk ltB tp p = sk ltB tp b → hd_X6_scanWord_0 E (k + 5) (up m 99 F) γ t Q := by
    intro d
    induction d with
    | zero =>
      intro p hp F f1 f2 f3 f4
      refine vc_X6_scanWord_0 ?_
      show _ ∧ _
      rw [up_self, f3, f1 1 (by decide), h.1]
      refine ⟨fun c => absurd c (by omega), fun _ => ?_⟩
      rw [sk_f (fun q => by omega)] at f4
      exact fin F f1 f2 (by rw [f3, f4])
    | succ d ih =>
      intro p hp F f1 f2 f3 f4
      refine vc_X6_scanWord_0 ?_
      show _ ∧ _
      rw [up_self, f3, f1 1 (by decide), h.1]
      refine ⟨fun _ => ?_, fun c => absurd (by omega) c⟩
      refine S_isLetter p rfl (h.up (f1 1 (by decide))) (by omega) (fun c => b1 ?_) (fun c => b0 ?_)
      · rw [up_self, f3, up_up]
        refine ⟨by omega, ih (p + 1) (by omega) _ (fun j hj => by rw [up_ne (by omega)]; exact f1 j hj) (by rw [up_ne (by decide)]; exact f2) (by rw [up_self]; omega) (by rw [← sk_t (by omega) c]; exact f4)⟩
      · rw [sk_f (fun q => by rw [c] at q; exact absurd q.2 (by decide))] at f4
        rw [up_self]
        exact fin F f1 f2 (by rw [f3, f4])
  refine vc_X6_scanWord ?_
  show _ ∧ _
  rw [h5, h.1]
  refine ⟨fun _ => S_isLetter b rfl h hbl (fun c => b1 ?_) (fun c => by rw [hl] at c; cases c), fun c => absurd (by omega) c⟩
  rw [h5]
  exact ⟨by omega, loop (tp.length - (b + 1)) (b + 1) (by omega) _ (fun j hj => up_ne (by omega)) (by rw [up_ne (by decide)]; exact hb) (by rw [up_self]; omega) (by rw [← sk_t hbl hl])⟩
theorem S_scanNumber {Q : MM → GM → am_H → Prop} (b : Nat) (h : TPl m tp) (hb : m 99 4 = (b : Int)) (hbl : b < tp.length) (h5 : m 99 5 = (b : Int)) (hQ : ∀ F, f47 (m 99) F → F 4 = (b : Int) → F 5 = (sk dgB tp b : Int) → F 6 = 2 → F 7 = nv tp b 0 → Q (up m 99 F) γ t) : TV E (k + 2) 86 [.ref 99] m γ t Q := by
  have h4 := h.2.1
  have loop : ∀ (d p : Nat), p + d = tp.length → ∀ (F : Nat → Int) (v : Int), f47 (m 99) F → F 4 = (b : Int) → F 5 = (p : Int) → F 6 = 2 → F 7 = v → 0 ≤ v ∧ v ≤ 1000 → sk dgB tp p = sk dgB tp b → nv tp p v = nv tp b 0 → hd_X6_scanNumber_10 E (k + 1) (up m 99 F) γ t Q := by
    intro d
    induction d with
    | zero =>
      intro p hp F v f1 f2 f3 f6 f7 hv f4 f5
      refine vc_X6_scanNumber_10 ?_
      show _ ∧ _
      rw [up_self, f3, f1 1 (by decide), h.1]
      rw [sk_f (fun q => by omega)] at f4
      rw [nv_f (fun q => by omega)] at f5
      exact ⟨fun c => absurd c (by omega), fun _ => hQ F f1 f2 (by rw [f3, f4]) f6 (by rw [f7, f5])⟩
    | succ d ih =>
      intro p hp F v f1 f2 f3 f6 f7 hv f4 f5
      have hT : TPl (up m 99 F) tp := h.up (f1 1 (by decide))
      refine vc_X6_scanNumber_10 ?_
      show _ ∧ _
      rw [up_self, f3, f1 1 (by decide), h.1]
      refine ⟨fun _ => S_isDigit p rfl hT (by omega) (fun c => b1 ?_) (fun c => b0 ?_), fun c => absurd (by omega) c⟩
      · rw [up_self, f3, f7]
        have hz := (h.2.2 p (by omega)).2
        have hd : 48 ≤ tp.getD p 0 ∧ tp.getD p 0 ≤ 57 := by
          unfold dgB at c
          exact of_decide_eq_true c
        have hbm := sbm hz
        rw [if_pos (by omega)] at hbm
        refine S_byteAt6 p rfl hT (by omega) ?_
        rw [hbm]
        refine S_minT (by omega) (by omega) ?_
        rw [up_self, f3, up_up, up_up]
        show rJ ((p : Int) + 1) ∧ _
        refine ⟨by omega, ih (p + 1) (by omega) _ (mn1 (10 * v + tp.getD p 0 - 48)) (fun j hj => by rw [up_ne (by omega), up_ne (by omega)]; exact f1 j hj) (by rw [up_ne (by decide), up_ne (by decide)]; exact f2) (by rw [up_self]; omega) (by rw [up_ne (by decide), up_ne (by decide)]; exact f6) (by rw [up_ne (by decide), up_self]; rfl) (by unfold mn1; split <;> omega) (by rw [← sk_t (by omega) c]; exact f4) (by rw [← nv_t (by omega) c]; exact f5)⟩
      · rw [sk_f (fun q => by rw [c] at q; exact absurd q.2 (by decide))] at f4
        rw [nv_f (fun q => by rw [c] at q; exact absurd q.2 (by decide))] at f5
        exact hQ F f1 f2 (by rw [f3, f4]) f6 (by rw [f7, f5])
  refine vc_X6_scanNumber ?_
  show hd_X6_scanNumber_10 _ _ _ _ _ _
  rw [up_up]
  exact loop (tp.length - b) b (by omega) _ 0 (fun j hj => by rw [up_ne (by omega), up_ne (by omega)]) (by rw [up_ne (by decide), up_ne (by decide)]; exact hb) (by rw [up_ne (by decide), up_ne (by decide)]; exact h5) (by rw [up_ne (by decide), up_self]) (by rw [up_self]) (by omega) rfl rfl
theorem S_scan {Q : MM → GM → am_H → Prop} (p : Nat) (hE : EV E) (h : TPl m tp) (hp : p ≤ tp.length) (h5 : m 99 5 = (p : Int)) (hQ : ∀ F, f47 (m 99) F → F 4 = (kb tp p : Int) → F 5 = (kq tp p : Int) → F 6 = (kst tp p : Int) → (kst tp p ≠ 0 → F 7 = kv tp p) → (kst tp p = 0 → F 7 = m 99 7) → Q (up m 99 F) γ t) : TV E (k + 7) 84 [.ref 99] m γ t Q := by
  have h4 := h.2.1
  have hkb := sk_le (P := wsB) hp
  have hkb : p ≤ kb tp p ∧ kb tp p ≤ tp.length := hkb
  -- the end of the tape
  have ende : ∀ F : Nat → Int, f47 (m 99) F → F 4 = (tp.length : Int) → F 7 = m 99 7 → kb tp p = tp.length → Q (up (up (up m 99 F) 99 (up F 5 (F 4))) 99 (up (up F 5 (F 4)) 6 0)) γ t := by
    intro F f1 f2 f3 f4
    rw [up_up, up_up]
    have hk : kst tp p = 0 := by unfold kst; rw [if_neg (by omega)]
    have hq : kq tp p = kb tp p := by unfold kq; rw [if_neg (by omega)]
    refine hQ _ (fun j hj => by rw [up_ne (by omega), up_ne (by omega)]; exact f1 j hj) (by rw [up_ne (by decide), up_ne (by decide), f2, f4]) (by rw [up_ne (by decide), up_self, f2, hq, f4]) (by rw [up_self, hk]; rfl) (fun q => absurd hk q) (fun _ => by rw [up_ne (by decide), up_ne (by decide)]; exact f3)
  have loop : ∀ (d i : Nat), i + d = tp.length → ∀ F : Nat → Int, f47 (m 99) F → F 4 = (i : Int) → F 7 = m 99 7 → sk wsB tp i = kb tp p → hd_X6_scan_8 E (k + 6) (up m 99 F) γ t Q := by
    intro d
    induction d with
    | zero =>
      intro i hi F f1 f2 f3 f4
      refine vc_X6_scan_8 ?_
      show _ ∧ _
      rw [up_self, f2, f1 1 (by decide), h.1]
      refine ⟨fun c => absurd c (by omega), fun _ => ?_⟩
      rw [sk_f (fun q => by omega)] at f4
      have := ende F f1 (by rw [f2]; omega) f3 (by omega)
      rw [f2] at this
      exact this
    | succ d ih =>
      intro i hi F f1 f2 f3 f4
      have hT : TPl (up m 99 F) tp := h.up (f1 1 (by decide))
      have hz := (h.2.2 i (by omega)).2
      have hbm := sbm hz
      have nxt : wsB (tp.getD i 0) = true → rJ ((i : Int) + 1) ∧ hd_X6_scan_8 E (k + 6) (up (up m 99 F) 99 (up F 4 ((i : Int) + 1))) γ t Q := fun c => by
        rw [up_up]
        exact ⟨by omega, ih (i + 1) (by omega) _ (fun j hj => by rw [up_ne (by omega)]; exact f1 j hj) (by rw [up_self]; omega) (by rw [up_ne (by decide)]; exact f3) (by rw [← sk_t (by omega) c]; exact f4)⟩
      refine vc_X6_scan_8 ?_
      show _ ∧ _
      rw [up_self, f2, f1 1 (by decide), h.1]
      refine ⟨fun _ => S_byteAt6 i rfl hT (by omega) ?_, fun c => absurd (by omega) c⟩
      rw [up_self, f2]
      refine ⟨fun c => nxt (decide_eq_true (Or.inl (by split at hbm <;> omega))), fun c => S_byteAt6 i rfl hT (by omega) ⟨fun c2 => ?_, fun c2 => ?_⟩⟩
      · rw [up_self, f2]
        exact nxt (decide_eq_true (Or.inr (by split at hbm <;> omega)))
      · have hns : ¬ (i < tp.length ∧ wsB (tp.getD i 0) = true) := fun q => by
          have := of_decide_eq_true q.2
          split at hbm <;> omega
        rw [sk_f hns] at f4
        subst f4
        rw [up_self, f2, f1 1 (by decide), h.1, up_up]
        refine ⟨fun _ => ?_, fun c => absurd (by omega) c⟩
        generalize hb : kb tp p = b at *
        have hT2 : TPl (up m 99 (up F 5 (b : Int))) tp := h.up (by rw [up_ne (by decide)]; exact f1 1 (by decide))
        have g1 : f47 (m 99) (up F 5 (b : Int)) := fun j hj => by rw [up_ne (by omega)]; exact f1 j hj
        have hbl : b < tp.length := by omega
        refine S_isLetter b rfl hT2 hbl (fun c3 => b1 ?_) (fun c3 => b0 ?_)
        · have hk : kst tp p = 1 := by unfold kst; rw [hb, if_pos hbl, if_pos c3]
          have hq : kq tp p = sk ltB tp b := by unfold kq; rw [hb, if_pos hbl, if_pos c3]
          refine S_scanWord (tp := tp) b hE hT2 (by rw [up_self, up_ne (by decide)]; exact f2) hbl (by rw [up_self, up_self]) c3 (fun F2 e1 e2 e3 e4 e5 => ?_)
          rw [up_up]
          rw [up_self] at e1
          refine hQ F2 (fun j hj => by rw [e1 j hj]; exact g1 j hj) e2 (by rw [e3, hq]) (by rw [e4, hk]; rfl) (fun _ => ?_) (fun q => absurd q (by omega))
          unfold kv
          rw [if_pos hk, hb, hq]
          exact e5
        · rw [up_self, up_ne (show 4 ≠ 5 by decide), f2]
          refine S_isDigit b rfl hT2 hbl (fun c4 => b1 ?_) (fun c4 => b0 ?_)
          · have hk : kst tp p = 2 := by unfold kst; rw [hb, if_pos hbl, if_neg (by rw [c3]; decide), if_pos c4]
            have hq : kq tp p = sk dgB tp b := by unfold kq; rw [hb, if_pos hbl, if_neg (by rw [c3]; decide), if_pos c4]
            refine S_scanNumber (tp := tp) b hT2 (by rw [up_self, up_ne (by decide)]; exact f2) hbl (by rw [up_self, up_self]) (fun F2 e1 e2 e3 e4 e5 => ?_)
            rw [up_up]
            rw [up_self] at e1
            refine hQ F2 (fun j hj => by rw [e1 j hj]; exact g1 j hj) e2 (by rw [e3, hq]) (by rw [e4, hk]; rfl) (fun _ => ?_) (fun q => absurd q (by omega))
            unfold kv
            rw [if_neg (by omega), if_pos hk, hb]
            exact e5
          · have hk : kst tp p = 3 := by unfold kst; rw [hb, if_pos hbl, if_neg (by rw [c3]; decide), if_neg (by rw [c4]; decide)]
            have hq : kq tp p = b + 1 := by unfold kq; rw [hb, if_pos hbl, if_neg (by rw [c3]; decide), if_neg (by rw [c4]; decide)]
            rw [up_self, up_ne (show 4 ≠ 5 by decide), f2, up_up]
            refine S_byteAt6 b rfl (h.up (by rw [up_ne (by decide)]; exact g1 1 (by decide))) hbl ?_
            rw [up_self, up_ne (show 5 ≠ 6 by decide), up_self, up_up, up_up]
            refine ⟨by omega, hQ _ (fun j hj => ?_) ?_ ?_ ?_ (fun _ => ?_) (fun q => absurd q (by omega))⟩
            · rw [up_ne (by omega), up_ne (by omega), up_ne (by omega)]
              exact g1 j hj
            · rw [up_ne (by decide), up_ne (by decide), up_ne (by decide), up_ne (by decide)]
              exact f2
            · rw [up_self, hq]
              omega
            · rw [up_ne (by decide), up_ne (by decide), up_self, hk]
              rfl
            · rw [up_ne (by decide), up_self]
              unfold kv
              rw [if_neg (by omega), if_neg (by omega), hb]
  refine vc_X6_scan ?_
  show hd_X6_scan_8 _ _ _ _ _ _
  rw [h5]
  exact loop (tp.length - p) p (by omega) _ (fun j hj => up_ne (by omega)) (by rw [up_self]) (by rw [up_ne (by decide)]) rfl
end SC
