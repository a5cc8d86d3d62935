/-! ===== count, fault, octet, plain, end, feed ===== -/
theorem bOr_0 {x : Int} (h : rJ x) : bOr x 0 = x := by
  unfold bOr
  have : iI x ||| iI 0 = iI x := by
    show iI x ||| 0 = iI x
    simp
  rw [this, iI_toInt h.1 h.2]
theorem and255 (x : Int32) : (x &&& 255).toInt = x.toInt % 256 := by
  have h1 : (x &&& 255).toBitVec.toNat = x.toBitVec.toNat % 256 := by
    rw [Int32.toBitVec_and, BitVec.toNat_and]
    exact Nat.and_two_pow_sub_one_eq_mod x.toBitVec.toNat 8
  have h2 : (x &&& 255).toInt = (x &&& 255).toBitVec.toInt := rfl
  have h3 : x.toInt = x.toBitVec.toInt := rfl
  rw [h2, h3, BitVec.toInt_eq_toNat_bmod, BitVec.toInt_eq_toNat_bmod, h1]
  have h4 : x.toBitVec.toNat < 2 ^ 32 := x.toBitVec.isLt
  generalize x.toBitVec.toNat = n at *
  unfold Int.bmod
  simp only
  split <;> split <;> omega
theorem bAnd255 (z : Int) : bAnd z 255 = (iI z).toInt % 256 := and255 (iI z)
theorem bByt_bmod (z : Int) : bByt z = Int.bmod (bAnd z 255) 256 := by
  rw [bAnd255]
  unfold bByt
  rw [Int8.toInt_toInt32, Int32.toInt_toInt8]
  generalize (iI z).toInt = y
  unfold Int.bmod
  simp only
  split <;> split <;> omega
def by4 (x : Int) : List Int := (List.range 4).map (fun j : Nat => bAnd (bUshr x (24 - 8 * (j : Int))) 255)
theorem by4_len (x : Int) : (by4 x).length = 4 := rfl
def fed (x1 x2 x3 x4 x5 : Int) : List Int := by4 x1 ++ (by4 x2 ++ (by4 x3 ++ (by4 x4 ++ by4 x5)))
theorem fed_len (x1 x2 x3 x4 x5 : Int) : (fed x1 x2 x3 x4 x5).length = 20 := rfl
theorem fed_at (x1 x2 x3 x4 x5 : Int) : ∀ k, (h : k < 20) → (fed x1 x2 x3 x4 x5)[k]'(by rw [fed_len]; exact h) = bAnd (bUshr ((up (up (up (up (up (fun _ => 0) 0 x1) 1 x2) 2 x3) 3 x4) 4 x5) (k / 4)) (24 - 8 * ((k % 4 : Nat) : Int))) 255 := by
  intro k h
  have : k = 0 ∨ k = 1 ∨ k = 2 ∨ k = 3 ∨ k = 4 ∨ k = 5 ∨ k = 6 ∨ k = 7 ∨ k = 8 ∨ k = 9 ∨ k = 10 ∨ k = 11 ∨ k = 12 ∨ k = 13 ∨ k = 14 ∨ k = 15 ∨ k = 16 ∨ k = 17 ∨ k = 18 ∨ k = 19 := by omega
  rcases this with rfl | rfl | rfl | rfl | rfl | rfl | rfl | rfl | rfl | rfl | rfl | rfl | rfl | rfl | rfl | rfl | rfl | rfl | rfl | rfl <;> rfl
theorem byt_rg {x : Int} {i : Nat} (h : i < (by4 x).length) : 0 ≤ (by4 x)[i] ∧ (by4 x)[i] < 256 := by
  have : (by4 x)[i] = bAnd (bUshr x (24 - 8 * (i : Int))) 255 := by simp [by4]
  rw [this, bAnd255]
  omega
def cntB (g : Nat → GV) : Nat → Int
  | 0 => 0
  | n + 1 => if 0 < (g n).1 then bOr (cntB g n) (bShl 1 n) else cntB g n
theorem cntB_rg (g : Nat → GV) : ∀ n, rJ (cntB g n)
  | 0 => by show rJ (0 : Int); decide
  | n + 1 => by
    show rJ (if 0 < (g n).1 then bOr (cntB g n) (bShl 1 n) else cntB g n)
    split
    · exact i32_rg _
    · exact cntB_rg g n
def v_count (a : AST) (w : Int) : Int := if w = 0 then cntB a.1 3 else if w = 1 then (a.2.1.length : Int) else if w = 2 then (a.2.2.1.length : Int) else if w = 3 then (a.2.2.2.2.length : Int) else -1
def v_fault (a : AST) (w : Int) : Int := if w = 0 then a.2.2.2.1.1 else if w = 1 then a.2.2.2.1.2 else -1
def v_octet (a : AST) (i : Int) : Int := if 0 ≤ i ∧ i < a.2.2.2.2.length then a.2.2.2.2.getD i.toNat 0 else -1
def v_plain (r c : Int) : Int := if (1 ≤ r ∧ r ≤ 9999) ∧ 1 ≤ c ∧ c ≤ 9999 then (Nat.gcd r.toNat c.toNat : Int) else -2
def v_end (a : AST) (n : Int) : Int := if 0 ≤ n ∧ n ≤ a.2.2.1.length then n else -1
def n_end (a : AST) (n : Int) : AST := if 0 ≤ n ∧ n ≤ a.2.2.1.length then (a.1, a.2.1, a.2.2.1.take n.toNat, a.2.2.2) else a
def v_feed (a : AST) : Int := if a.2.2.1.length ≤ 380 then (a.2.2.1.length : Int) + 20 else -1
def n_feed (a : AST) (x1 x2 x3 x4 x5 : Int) : AST := if a.2.2.1.length ≤ 380 then (a.1, a.2.1, a.2.2.1 ++ fed x1 x2 x3 x4 x5, a.2.2.2) else a
theorem CI.tape {m m1 : MM} {γ : GM} {a : AST} {tp : List Int} {f : Int × Int} (h : CI m γ a) (hm : ∀ b, b ≠ 99 → b ≠ 100 → m1 b = m b) (hT : TPc m1 tp f) : CI m1 γ (a.1, a.2.1, tp, f, a.2.2.2.2) := by
  obtain ⟨q1, q2, q3, q4, q5, q6⟩ := h
  refine ⟨q1, ⟨q2.1, ?_⟩, q3.move ⟨fun b h1 h2 => hm b (by omega) (by omega), rfl⟩, hT, ?_, ?_⟩
  · have hT := q2.2
    unfold TrOK at hT ⊢
    rw [hm 10 (by decide) (by decide), hm 15 (by decide) (by decide), hm 16 (by decide) (by decide), hm 17 (by decide) (by decide), hm 18 (by decide) (by decide), hm 19 (by decide) (by decide), hm 20 (by decide) (by decide), hm 21 (by decide) (by decide), hm 22 (by decide) (by decide), hm 23 (by decide) (by decide), hm 24 (by decide) (by decide), hm 25 (by decide) (by decide), hm 26 (by decide) (by decide)]
    exact hT
  · unfold OUc
    rw [hm 101 (by decide) (by decide), hm 102 (by decide) (by decide)]
    exact q5
  · unfold ACc
    rw [hm 103 (by decide) (by decide), hm 104 (by decide) (by decide)]
    exact q6
theorem RI.tape {m m1 : MM} {a : AST} {tp : List Int} {f : Int × Int} {l fl : List Nat} (h : RI m a) (hf : fr l fl m m1) (h1 : 159 ∉ l) (h2 : 161 ∉ l) (h3 : 194 ∉ l) (h4 : 3 ∉ fl) (h5 : 53 ∉ fl) (hT : TPr m1 tp f) (hl : tp.length ≤ 400) : RI m1 (a.1, a.2.1, tp, f, a.2.2.2.2) := by
  obtain ⟨q1, q2, q3, q4, q5, q6, q7⟩ := h
  refine ⟨by rw [hf.1 159 (by decide) h1]; exact q1, q2.fr hf h2 h4, hT, ?_, q5, hl, q7⟩
  unfold OUr
  rw [hf.2 53 h5, hf.1 194 (by decide) h3]
  exact q4
section T1
variable {E : am_E} {k : Nat} {m : MM} {γ : GM} {t : am_H} {a : AST} {Q : Int → MM → GM → am_H → Prop}
theorem C_count {w : Int} (hC : CI m γ a) (hw : rJ w) (hQ : Q (v_count a w) m γ t) : TI E (k + 3) 133 [.ref 0, .int (iI w)] m γ t Q := by
  unfold v_count at hQ
  refine vc_X8_count hw ⟨fun c => vc_X8_slotsInUse ?_, fun c => ⟨fun c2 => vc_X0_size ?_, fun c2 => ⟨fun c3 => vc_X6_size ?_, fun c3 => ⟨fun c4 => vc_X4_size ?_, fun c4 => ?_⟩⟩⟩⟩
  · rw [if_pos c] at hQ
    refine upN (n := 3) (P := fun n => hd_X8_slotsInUse_4 E (k + 1) (cntB a.1 n) (n : Int) m γ t (fun v2 m2 γ2 t2 => Q v2 m2 γ2 t2)) ?_ ?_ 0 (by decide)
    · exact vc_X8_slotsInUse_4 (cntB_rg _ _) (by decide) ⟨fun q => absurd q (by decide), fun _ => hQ⟩
    · intro n hn ih
      refine vc_X8_slotsInUse_4 (cntB_rg _ _) (by omega) ⟨fun _ => S_gridIn hC (by omega) (fun c1 => oN ?_) (fun c1 => oSm ⟨(c1.i hC).1, ?_⟩), fun q => absurd (by omega) q⟩
      · have e : cntB a.1 (n + 1) = cntB a.1 n := if_neg (fun h => c1 ⟨by omega, by omega, by rw [Int.toNat_natCast]; exact h⟩)
        rw [e] at ih
        exact ih
      · have e : cntB a.1 (n + 1) = bOr (cntB a.1 n) (bShl 1 n) := if_pos (by have := c1.2.2; rw [Int.toNat_natCast] at this; exact this)
        rw [e] at ih
        exact ih
  · unfold W_X0_size
    rw [if_neg c, if_pos c2] at hQ
    rw [hC.2.2.2.2.2.1]
    exact hQ
  · unfold W_X6_size
    rw [if_neg c, if_neg c2, if_pos c3] at hQ
    rw [hC.2.2.2.1.1]
    exact hQ
  · unfold W_X4_size
    rw [if_neg c, if_neg c2, if_neg c3, if_pos c4] at hQ
    rw [hC.2.2.2.2.1.1]
    exact hQ
  · rw [if_neg c, if_neg c2, if_neg c3, if_neg c4] at hQ
    exact hQ
theorem R_count {w : Int} (hR : RI m a) (hw : rJ w) (hQ : Q (v_count a w) m γ t) : TI E (k + 3) 234 [.ref 158, .int (iI w)] m γ t Q := by
  unfold v_count at hQ
  refine vc_X9_count hw ?_
  refine upN (n := 3) (P := fun n => hd_X9_count_4 E (k + 2) w w (cntB a.1 n) (n : Int) m γ t Q) ?_ ?_ 0 (by decide)
  · have h3 : m 158 3 = (a.2.1.length : Int) := by rw [hR.2.1.1, unw_len]
    refine vc_X9_count_4 hw hw (cntB_rg _ _) (by decide) ⟨fun q => absurd q (by decide), fun _ => ⟨fun c => ?_, fun c => ⟨fun c2 => ?_, fun c2 => ⟨fun c3 => ?_, fun c3 => ⟨fun c4 => ?_, fun c4 => ?_⟩⟩⟩⟩⟩
    · rw [if_pos c] at hQ
      exact hQ
    · rw [if_neg c, if_pos c2] at hQ
      rw [h3]
      exact hQ
    · rw [if_neg c, if_neg c2, if_pos c3] at hQ
      rw [hR.2.2.1.1]
      exact hQ
    · rw [if_neg c, if_neg c2, if_neg c3, if_pos c4] at hQ
      rw [hR.2.2.2.1.1]
      exact hQ
    · rw [if_neg c, if_neg c2, if_neg c3, if_neg c4] at hQ
      exact hQ
  · intro n hn ih
    refine vc_X9_count_4 hw hw (cntB_rg _ _) (by omega) ⟨fun _ => S_isGrid hR.1 (by omega) (fun c1 => b1 ?_) (fun c1 => b0 ?_), fun q => absurd (by omega) q⟩
    · have e : cntB a.1 (n + 1) = bOr (cntB a.1 n) (bShl 1 n) := if_pos (by have := c1.2.2; rw [Int.toNat_natCast] at this; exact this)
      rw [e] at ih
      exact ih
    · have e : cntB a.1 (n + 1) = cntB a.1 n := if_neg (fun h => c1 ⟨by omega, by omega, by rw [Int.toNat_natCast]; exact h⟩)
      rw [e] at ih
      rw [bOr_0 (cntB_rg _ _)]
      exact ih
theorem C_fault {w : Int} (hC : CI m γ a) (hw : rJ w) (hQ : Q (v_fault a w) m γ t) : TI E (k + 1) 132 [.ref 0, .int (iI w)] m γ t Q := by
  unfold v_fault at hQ
  refine vc_X8_fault hw ⟨fun c => vc_X6_faultNumber ?_, fun c => ⟨fun c2 => vc_X6_faultPlace ?_, fun c2 => ?_⟩⟩
  · unfold W_X6_faultNumber
    rw [if_pos c] at hQ
    rw [hC.2.2.2.1.2.2.2.1]
    exact hQ
  · unfold W_X6_faultPlace
    rw [if_neg c, if_pos c2] at hQ
    rw [hC.2.2.2.1.2.2.2.2]
    exact hQ
  · rw [if_neg c, if_neg c2] at hQ
    exact hQ
theorem R_fault {w : Int} (hR : RI m a) (hw : rJ w) (hQ : Q (v_fault a w) m γ t) : TI E k 233 [.ref 158, .int (iI w)] m γ t Q := by
  unfold v_fault at hQ
  refine vc_X9_fault hw ⟨fun c => ?_, fun c => ⟨fun c2 => ?_, fun c2 => ?_⟩⟩
  · rw [if_pos c] at hQ
    rw [hR.2.2.1.2.2.1]
    exact hQ
  · rw [if_neg c, if_pos c2] at hQ
    rw [hR.2.2.1.2.2.2]
    exact hQ
  · rw [if_neg c, if_neg c2] at hQ
    exact hQ
theorem C_octet {i : Int} (hC : CI m γ a) (hi : rJ i) (hQ : Q (v_octet a i) m γ t) : TI E (k + 1) 175 [.ref 0, .int (iI i)] m γ t Q := by
  unfold v_octet at hQ
  obtain ⟨o1, o2, o3⟩ := hC.2.2.2.2.1
  refine vc_X8_octet hi (vc_X4_byteAt hi ?_)
  unfold W_X4_byteAt
  rw [o1]
  refine ⟨fun c => ?_, fun c => ⟨fun c2 => ⟨fun c3 => ⟨by omega, ?_⟩, fun c3 => absurd (by omega) c3⟩, fun c2 => ?_⟩⟩
  · rw [if_neg (by omega)] at hQ
    exact hQ
  · rw [if_pos (by omega), List.getD_eq_getElem?_getD, List.getElem?_eq_getElem (show i.toNat < a.2.2.2.2.length by omega)] at hQ
    rw [(o3 i.toNat (by omega)).1]
    exact hQ
  · rw [if_neg (by omega)] at hQ
    exact hQ
theorem R_octet {i : Int} (hR : RI m a) (hi : rJ i) (hQ : Q (v_octet a i) m γ t) : TI E (k + 1) 308 [.ref 158, .int (iI i)] m γ t Q := by
  unfold v_octet at hQ
  obtain ⟨o1, o2⟩ := hR.2.2.2.1
  have hl := hR.2.2.2.2.2.2
  refine vc_X9_octet hi ?_
  unfold W_X9_octet
  rw [o1]
  refine ⟨by omega, S_in (by omega) (by decide) (by omega) (fun c => b1 ⟨by omega, ?_⟩) (fun c => b0 ?_)⟩
  · rw [if_pos (by omega), List.getD_eq_getElem?_getD, List.getElem?_eq_getElem (show i.toNat < a.2.2.2.2.length by omega)] at hQ
    rw [o2 i.toNat (by omega)]
    exact hQ
  · rw [if_neg (by omega)] at hQ
    exact hQ
theorem C_plain {r c : Int} (hr : rJ r) (hc : rJ c) (hQ : Q (v_plain r c) m γ t) : TI E k 171 [.ref 0, .int (iI r), .int (iI c)] m γ t Q := by
  unfold v_plain at hQ
  have no : ¬ ((1 ≤ r ∧ r ≤ 9999) ∧ 1 ≤ c ∧ c ≤ 9999) → Q (-2) m γ t := fun h => by rw [if_neg h] at hQ; exact hQ
  have loop : ∀ (y x n : Nat), n + y ≤ 9999 → x ≤ 9999 → Nat.gcd x y = Nat.gcd r.toNat c.toNat → ((1 ≤ r ∧ r ≤ 9999) ∧ 1 ≤ c ∧ c ≤ 9999) → hd_X8_plain_35 E k r c (x : Int) (y : Int) (n : Int) m γ t Q := by
    intro y
    induction y using Nat.strongRecOn with
    | ind y ih =>
      intro x n h1 h2 h3 h4
      refine vc_X8_plain_35 hr hc (by omega) (by omega) (by omega) ⟨fun _ => ⟨fun c1 => ?_, fun c1 => ⟨by omega, by omega, ?_⟩⟩, fun q => absurd (by omega) q⟩
      · have : y = 0 := by omega
        rw [this, Nat.gcd_zero_right] at h3
        rw [if_pos h4, ← h3] at hQ
        exact hQ
      · have hlt := Nat.mod_lt x (show 0 < y by omega)
        have := ih (x % y) hlt y (n + 1) (by omega) (by omega) (by rw [Nat.gcd_comm, ← Nat.gcd_rec, Nat.gcd_comm]; exact h3) h4
        rw [show ((x % y : Nat) : Int) = (x : Int) % (y : Int) by simp, show ((n + 1 : Nat) : Int) = (n : Int) + 1 by omega] at this
        exact this
  refine vc_X8_plain hr hc ⟨fun c1 => no (by omega), fun c1 => ⟨fun c2 => ⟨fun c3 => no (by omega), fun c3 => ⟨fun c4 => ?_, fun c4 => no (by omega)⟩⟩, fun c2 => no (by omega)⟩⟩
  have := loop c.toNat r.toNat 0 (by omega) (by omega) rfl (by omega)
  rw [show ((r.toNat : Nat) : Int) = r by omega, show ((c.toNat : Nat) : Int) = c by omega] at this
  exact this
theorem R_plain {r c : Int} (hr : rJ r) (hc : rJ c) (hQ : Q (v_plain r c) m γ t) : TI E (k + 1) 302 [.ref 158, .int (iI r), .int (iI c)] m γ t Q := by
  unfold v_plain at hQ
  have no : ¬ ((1 ≤ r ∧ r ≤ 9999) ∧ 1 ≤ c ∧ c ≤ 9999) → Q (-2) m γ t := fun h => by rw [if_neg h] at hQ; exact hQ
  have loop : ∀ (y x : Nat), y ≤ 9999 → x ≤ 9999 → Nat.gcd x y = Nat.gcd r.toNat c.toNat → ((1 ≤ r ∧ r ≤ 9999) ∧ 1 ≤ c ∧ c ≤ 9999) → hd_X9_plain_32 E k r c (x : Int) (y : Int) m γ t Q := by
    intro y
    induction y using Nat.strongRecOn with
    | ind y ih =>
      intro x h1 h2 h3 h4
      refine vc_X9_plain_32 hr hc (by omega) (by omega) ⟨fun c1 => ?_, fun c1 => ⟨by omega, by omega, ?_⟩⟩
      · have : y = 0 := by omega
        rw [this, Nat.gcd_zero_right] at h3
        rw [if_pos h4, ← h3] at hQ
        exact hQ
      · have hlt := Nat.mod_lt x (show 0 < y by omega)
        have := ih (x % y) hlt y (by omega) (by omega) (by rw [Nat.gcd_comm, ← Nat.gcd_rec, Nat.gcd_comm]; exact h3) h4
        rw [show ((x % y : Nat) : Int) = (x : Int) % (y : Int) by simp] at this
        exact this
  refine vc_X9_plain hr hc (S_in (by omega) (by decide) (by decide) (fun c1 => b1 (S_in (by omega) (by decide) (by decide) (fun c2 => b1 ?_) (fun c2 => b0 (no (by omega))))) (fun c1 => b0 (no (by omega))))
  have := loop c.toNat r.toNat (by omega) (by omega) rfl (by omega)
  rw [show ((r.toNat : Nat) : Int) = r by omega, show ((c.toNat : Nat) : Int) = c by omega] at this
  exact this
theorem C_end {n : Int} (hC : CI m γ a) (hn : rJ n) (hQ : ∀ m1, CI m1 γ (n_end a n) → rsame m m1 → Q (v_end a n) m1 γ t) : TI E (k + 1) 130 [.ref 0, .int (iI n)] m γ t Q := by
  unfold v_end n_end at hQ
  obtain ⟨t1, t2, t3, t4, t5⟩ := hC.2.2.2.1
  refine vc_X8_end hn (vc_X6_cut hn ?_)
  unfold W_X6_cut
  rw [t1]
  refine ⟨fun c => b0 ?_, fun c => ⟨fun c2 => b1 ?_, fun c2 => b0 ?_⟩⟩
  · rw [if_neg (by omega), if_neg (by omega)] at hQ
    exact hQ m hC (fun _ _ => rfl)
  · rw [if_pos (by omega), if_pos (by omega)] at hQ
    refine hQ _ (hC.tape (fun b b1 b2 => up_ne b1) ⟨?_, ?_, fun i hi => ?_, t4, t5⟩) (fun b hb => up_ne (by omega))
    · show n = _
      rw [List.length_take]
      omega
    · rw [List.length_take]
      omega
    · rw [List.length_take] at hi
      rw [List.getElem_take]
      exact t3 i (by omega)
  · rw [if_neg (by omega), if_neg (by omega)] at hQ
    exact hQ m hC (fun _ _ => rfl)
theorem R_end {n : Int} (hR : RI m a) (hn : rJ n) (hQ : ∀ m1, clS m m1 → RI m1 (n_end a n) → Q (v_end a n) m1 γ t) : TI E (k + 1) 221 [.ref 158, .int (iI n)] m γ t Q := by
  unfold v_end n_end at hQ
  obtain ⟨t1, t2, t3, t4⟩ := hR.2.2.1
  have hl := hR.2.2.2.2.2.1
  refine vc_X9_end hn ?_
  unfold W_X9_end
  rw [t1]
  refine S_in (by omega) (by decide) (by omega) (fun c => b1 ?_) (fun c => b0 ?_)
  · rw [if_pos c, if_pos c] at hQ
    refine hQ _ (fun b hb => up_ne (by omega)) (hR.tape (l := []) (fl := [32]) (fr.refl.upf (by decide)) (by decide) (by decide) (by decide) (by decide) (by decide) ⟨?_, fun i hi => ?_, t3, t4⟩ ?_)
    · show n = _
      rw [List.length_take]
      omega
    · rw [List.length_take] at hi
      rw [List.getElem_take]
      exact t2 i (by omega)
    · rw [List.length_take]
      omega
  · rw [if_neg c, if_neg c] at hQ
    exact hQ m (fun _ _ => rfl) hR
theorem S_add {Q : MM → GM → am_H → Prop} {tp : List Int} {f : Int × Int} {x : Int} (h : TPc m tp f) (hx : rJ x) (hl : tp.length + 4 ≤ 400) (hQ : ∀ m1, (∀ b, b ≠ 99 → b ≠ 100 → m1 b = m b) → TPc m1 (tp ++ by4 x) f → Q m1 γ t) : TV E k 78 [.ref 99, .int (iI x)] m γ t Q := by
  refine vc_X6_add hx ?_
  refine upN (n := 4) (P := fun j => ∀ m1, (∀ b, b ≠ 99 → b ≠ 100 → m1 b = m b) → TPc m1 (tp ++ (by4 x).take j) f → hd_X6_add_3 E k x x (24 - 8 * (j : Int)) m1 γ t Q) ?_ ?_ 0 (by decide) m (fun _ _ _ => rfl) (by rw [List.take_zero, List.append_nil]; exact h)
  · intro m1 hf hT
    refine vc_X6_add_3 hx hx (by decide) ⟨fun _ => hQ m1 hf hT, fun q => absurd (by decide) q⟩
  · intro j hj ih m1 hf hT
    obtain ⟨t1, t2, t3, t4, t5⟩ := hT
    have hlen : (tp ++ (by4 x).take j).length = tp.length + j := by rw [List.length_append, List.length_take, by4_len]; omega
    rw [hlen] at t1
    have hb := i32_rg (iI (bUshr x (24 - 8 * (j : Int)))).toInt8.toInt32
    have hb2 : -128 ≤ bByt (bUshr x (24 - 8 * (j : Int))) ∧ bByt (bUshr x (24 - 8 * (j : Int))) < 128 := by
      rw [bByt_bmod]
      exact ⟨by have := Int.le_bmod (x := bAnd (bUshr x (24 - 8 * (j : Int))) 255) (m := 256) (by omega); omega, by have := Int.bmod_lt (x := bAnd (bUshr x (24 - 8 * (j : Int))) 255) (m := 256) (by omega); omega⟩
    refine vc_X6_add_3 hx hx (by omega) ⟨fun q => absurd q (by omega), fun _ => ⟨fun _ => ⟨by omega, hb2, by omega, ?_⟩, fun q => absurd (by omega) q⟩⟩
    have e1 : (by4 x).take (j + 1) = (by4 x).take j ++ [bAnd (bUshr x (24 - 8 * (j : Int))) 255] := by
      rw [List.take_add_one]
      congr 1
      have : j = 0 ∨ j = 1 ∨ j = 2 ∨ j = 3 := by omega
      rcases this with rfl | rfl | rfl | rfl <;> rfl
    have := ih (up (up m1 100 (up (m1 100) ((m1 99 1).toNat) (bByt (bUshr x (24 - 8 * (j : Int)))))) 99 (up (m1 99) 1 (m1 99 1 + 1))) (fun b b1 b2 => by rw [up_ne b1, up_ne b2]; exact hf b b1 b2) (by
      rw [e1, ← List.append_assoc]
      refine ⟨?_, ?_, fun i hi => ?_, t4, t5⟩
      · show m1 99 1 + 1 = _
        rw [t1, List.length_append, hlen]
        simp
      · rw [List.length_append, hlen]
        simp
        omega
      · show (up (m1 100) ((m1 99 1).toNat) (bByt (bUshr x (24 - 8 * (j : Int))))) i = _ ∧ _
        rw [List.length_append, hlen] at hi
        simp at hi
        rw [t1, Int.toNat_natCast]
        by_cases hi2 : i = tp.length + j
        · subst hi2
          rw [up_self, List.getElem_append_right (by omega)]
          simp only [hlen, Nat.sub_self, List.getElem_singleton]
          rw [bByt_bmod]
          refine ⟨rfl, ?_⟩
          rw [bAnd255]
          omega
        · rw [up_ne hi2, List.getElem_append_left (by omega)]
          exact t3 i (by omega))
    rw [show (24 : Int) - 8 * ((j + 1 : Nat) : Int) = 24 - 8 * (j : Int) + (-8) by omega] at this
    exact this
theorem C_feed {x1 x2 x3 x4 x5 : Int} (hC : CI m γ a) (h1 : rJ x1) (h2 : rJ x2) (h3 : rJ x3) (h4 : rJ x4) (h5 : rJ x5) (hQ : ∀ m1, CI m1 γ (n_feed a x1 x2 x3 x4 x5) → rsame m m1 → Q (v_feed a) m1 γ t) : TI E (k + 1) 129 [.ref 0, .int (iI x1), .int (iI x2), .int (iI x3), .int (iI x4), .int (iI x5)] m γ t Q := by
  unfold v_feed n_feed at hQ
  have hT := hC.2.2.2.1
  refine vc_X8_feed h1 h2 h3 h4 h5 (vc_X6_hasRoom (by decide) ?_)
  unfold W_X6_hasRoom
  have hle := hT.2.1
  rw [hT.1]
  refine ⟨by omega, fun c => b1 ?_, fun c => b0 ?_⟩
  · rw [if_pos (by omega), if_pos (by omega)] at hQ
    have l4 : ∀ x, (by4 x).length = 4 := by4_len
    refine S_add hT h1 (by omega) (fun m1 f1 T1 => S_add T1 h2 (by rw [List.length_append, l4]; omega) (fun m2 f2 T2 => S_add T2 h3 (by rw [List.length_append, List.length_append, l4, l4]; omega) (fun m3 f3 T3 => S_add T3 h4 (by rw [List.length_append, List.length_append, List.length_append, l4, l4, l4]; omega) (fun m4 f4 T4 => S_add T4 h5 (by rw [List.length_append, List.length_append, List.length_append, List.length_append, l4, l4, l4, l4]; omega) (fun m5 f5 T5 => vc_X6_size ?_)))))
    unfold W_X6_size
    have hf : ∀ b, b ≠ 99 → b ≠ 100 → m5 b = m b := fun b b1 b2 => by rw [f5 b b1 b2, f4 b b1 b2, f3 b b1 b2, f2 b b1 b2, f1 b b1 b2]
    have e : a.2.2.1 ++ by4 x1 ++ by4 x2 ++ by4 x3 ++ by4 x4 ++ by4 x5 = a.2.2.1 ++ fed x1 x2 x3 x4 x5 := by
      unfold fed
      simp only [List.append_assoc]
    rw [e] at T5
    have hlen : (a.2.2.1 ++ fed x1 x2 x3 x4 x5).length = a.2.2.1.length + 20 := by rw [List.length_append, fed_len]
    rw [T5.1, hlen, show ((a.2.2.1.length + 20 : Nat) : Int) = (a.2.2.1.length : Int) + 20 by omega]
    exact hQ m5 (hC.tape hf T5) (fun b hb => hf b (by omega) (by omega))
  · rw [if_neg (by omega), if_neg (by omega)] at hQ
    exact hQ m hC (fun _ _ => rfl)
theorem R_feed {x1 x2 x3 x4 x5 : Int} (hR : RI m a) (h1 : rJ x1) (h2 : rJ x2) (h3 : rJ x3) (h4 : rJ x4) (h5 : rJ x5) (ht : t.length < 900000) (hQ : ∀ m1 t1, clS m m1 → RI m1 (n_feed a x1 x2 x3 x4 x5) → (t1 = t ∨ ∃ F, t1 = t ++ [cI 5 F]) → Q (v_feed a) m1 γ t1) : TI E k 220 [.ref 158, .int (iI x1), .int (iI x2), .int (iI x3), .int (iI x4), .int (iI x5)] m γ t Q := by
  unfold v_feed n_feed at hQ
  obtain ⟨t1, t2, t3, t4⟩ := hR.2.2.1
  refine vc_X9_feed h1 h2 h3 h4 h5 ?_
  unfold W_X9_feed
  rw [t1]
  refine ⟨fun c => ⟨ht, ?_⟩, fun c => ?_⟩
  · rw [if_pos (by omega), if_pos (by omega)] at hQ
    refine upN (n := 20) (P := fun j => ∀ m1, fr [182] [] m m1 → (∀ i, (h : i < a.2.2.1.length) → m1 182 i = a.2.2.1[i]) → (∀ i, (h : i < j) → (h' : i < 20) → m1 182 (a.2.2.1.length + i) = (fed x1 x2 x3 x4 x5)[i]'(by rw [fed_len]; exact h')) → hd_X9_feed_42 E k x1 x2 x3 x4 x5 (up (up (up (up (up (fun _ => 0) 0 x1) 1 x2) 2 x3) 3 x4) 4 x5) t (j : Int) m1 γ Q) ?_ ?_ 0 (by decide) m fr.refl t2 (fun i h => absurd h (Nat.not_lt_zero _))
    · intro m1 hf ho hn
      have h32 : m1 158 32 = (a.2.2.1.length : Int) := (hf.2 32 (by decide)).trans t1
      refine vc_X9_feed_42 h1 h2 h3 h4 h5 ht (by decide) ⟨fun q => absurd q (by decide), fun _ => ⟨by omega, ?_⟩⟩
      rw [h32]
      have hlen : (a.2.2.1 ++ fed x1 x2 x3 x4 x5).length = a.2.2.1.length + 20 := by rw [List.length_append, fed_len]
      refine hQ _ _ (fun b hb => by rw [up_ne (by omega)]; exact hf.1 b (by omega) (by simp; omega)) (hR.tape (l := [182]) (fl := [32]) ((hf.mono (by decide) (by decide)).upf (by decide)) (by decide) (by decide) (by decide) (by decide) (by decide) ⟨?_, fun i hi => ?_, ?_, ?_⟩ (by rw [hlen]; omega)) (Or.inr ⟨_, rfl⟩)
      · show (a.2.2.1.length : Int) + 20 = _
        rw [hlen]
        omega
      · show m1 182 i = _
        rw [hlen] at hi
        by_cases hi2 : i < a.2.2.1.length
        · rw [List.getElem_append_left hi2]
          exact ho i hi2
        · rw [List.getElem_append_right (by omega)]
          have := hn (i - a.2.2.1.length) (by omega) (by omega)
          rw [show a.2.2.1.length + (i - a.2.2.1.length) = i by omega] at this
          exact this
      · show m1 158 33 = _
        rw [hf.2 33 (by decide)]
        exact t3
      · show m1 158 34 = _
        rw [hf.2 34 (by decide)]
        exact t4
    · intro j hj ih m1 hf ho hn
      have h32 : m1 158 32 = (a.2.2.1.length : Int) := (hf.2 32 (by decide)).trans t1
      refine vc_X9_feed_42 h1 h2 h3 h4 h5 ht (by omega) ⟨fun _ => ⟨by omega, by omega, by omega, by omega, ?_⟩, fun q => absurd (by omega) q⟩
      rw [h32, show ((a.2.2.1.length : Int) + (j : Int)).toNat = a.2.2.1.length + j by omega, show ((j : Int) / 4).toNat = j / 4 by omega, show (j : Int) % 4 = ((j % 4 : Nat) : Int) by omega, ← fed_at x1 x2 x3 x4 x5 j hj]
      refine ih _ (hf.upa 182 (by decide) (by decide)) (fun i hi => ?_) (fun i hi hi2 => ?_)
      · rw [up_self, up_ne (by omega)]
        exact ho i hi
      · rw [up_self]
        by_cases e : i = j
        · subst e
          rw [up_self]
        · rw [up_ne (by omega)]
          exact hn i (by omega) hi2
  · rw [if_neg (by omega), if_neg (by omega)] at hQ
    exact hQ m t (fun _ _ => rfl) hR (Or.inl rfl)
end T1
