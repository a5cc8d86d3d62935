def cT (n : Nat) (F : Nat → Int) : am_C := .inl (.boolean, n, .inl (fun j => iI (F j)))
def cR (C : FieldType) (n : Nat) (f : Nat → Option Nat) : am_C := .inl (C, n, .inr (.inr (.inr (.inr f))))
/-- an object's fields: 0 a number, a + 1 a reference to a -/
def fsOf : List Nat → (Nat → Int) → Nat → List Value
  | [], _, _ => []
  | 0 :: r, F, k => .int (iI (F k)) :: fsOf r F (k + 1)
  | (a + 1) :: r, F, k => .ref a :: fsOf r F (k + 1)
/-- what stands where: 0 .. 3 a row of int, byte, boolean, long; 4 an object; 5 a row of grids; 6, 7 a row of rows; 8 a Grid's cell -/
def mlay : List (Nat × Nat × List Nat) := [(4, 8, [2, 3, 7, 11, 29, 52, 81, 100, 102, 104]), (5, 3, [146]), (8, 0, []), (8, 0, []), (8, 0, []), (8, 0, []), (8, 0, []), (8, 0, []), (8, 0, []), (8, 0, []), (4, 7, [12, 0, 0, 0, 16, 17, 18, 19, 20, 21, 22, 23, 24, 25, 26, 27, 28]), (8, 0, []), (8, 0, []), (8, 0, []), (8, 0, []), (0, 64, []), (0, 64, []), (0, 64, []), (0, 64, []), (0, 65, []), (0, 48, []), (0, 48, []), (0, 48, []), (0, 48, []), (0, 65, []), (0, 24, []), (0, 24, []), (0, 64, []), (4, 5, [30, 0, 34, 35, 36, 37, 51]), (8, 0, []), (8, 0, []), (8, 0, []), (8, 0, []), (0, 128, []), (0, 48, []), (2, 12, []), (6, 13, [37]), (0, 17, []), (0, 17, []), (0, 17, []), (0, 17, []), (0, 17, []), (0, 17, []), (0, 17, []), (0, 17, []), (0, 17, []), (0, 17, []), (0, 17, []), (0, 17, []), (0, 17, []), (3, 201, []), (4, 1, [53, 0, 0, 78, 79, 80]), (6, 24, [53]), (0, 40, []), (0, 40, []), (0, 40, []), (0, 40, []), (0, 40, []), (0, 40, []), (0, 40, []), (0, 40, []), (0, 40, []), (0, 40, []), (0, 40, []), (0, 40, []), (0, 40, []), (0, 40, []), (0, 40, []), (0, 40, []), (0, 40, []), (0, 40, []), (0, 40, []), (0, 40, []), (0, 40, []), (0, 40, []), (0, 40, []), (0, 40, []), (0, 24, []), (0, 24, []), (0, 24, []), (4, 2, [82, 83]), (0, 16, []), (7, 16, [83]), (3, 16, []), (3, 16, []), (3, 16, []), (3, 16, []), (3, 16, []), (3, 16, []), (3, 16, []), (3, 16, []), (3, 16, []), (3, 16, []), (3, 16, []), (3, 16, []), (3, 16, []), (3, 16, []), (3, 16, []), (3, 16, []), (4, 6, [101, 0, 0, 0, 0, 0, 0, 0, 0, 0, 0, 0]), (1, 400, []), (4, 4, [103, 0]), (1, 400, []), (4, 0, [105, 106, 0, 0]), (0, 10, []), (5, 10, [106]), (8, 0, []), (8, 0, []), (8, 0, []), (8, 0, []), (8, 0, []), (8, 0, []), (8, 0, []), (8, 0, []), (8, 0, []), (8, 0, []), (8, 0, []), (8, 0, []), (8, 0, []), (8, 0, []), (8, 0, []), (8, 0, []), (8, 0, []), (8, 0, []), (8, 0, []), (8, 0, []), (8, 0, []), (8, 0, []), (8, 0, []), (8, 0, []), (8, 0, []), (8, 0, []), (8, 0, []), (8, 0, []), (8, 0, []), (8, 0, []), (8, 0, []), (8, 0, []), (8, 0, []), (8, 0, []), (8, 0, []), (8, 0, []), (8, 0, []), (8, 0, []), (8, 0, []), (8, 0, []), (8, 0, []), (8, 0, []), (8, 0, []), (8, 0, []), (8, 0, []), (8, 0, []), (8, 0, []), (8, 0, []), (8, 0, []), (8, 0, []), (8, 0, []), (8, 0, []), (4, 9, [160, 161, 162, 0, 0, 0, 0, 163, 164, 165, 166, 167, 168, 169, 170, 171, 0, 0, 0, 0, 172, 173, 174, 175, 176, 177, 178, 179, 180, 181, 182, 183, 0, 0, 0, 0, 0, 0, 0, 0, 184, 0, 185, 186, 187, 188, 189, 190, 191, 192, 193, 194, 195, 0]), (0, 78, []), (0, 78, []), (0, 780, []), (0, 24, []), (0, 24, []), (0, 24, []), (0, 32, []), (0, 64, []), (0, 64, []), (2, 64, []), (0, 64, []), (0, 65, []), (0, 24, []), (0, 24, []), (0, 24, []), (0, 24, []), (0, 24, []), (0, 24, []), (0, 24, []), (0, 24, []), (0, 48, []), (2, 48, []), (0, 65, []), (0, 400, []), (0, 24, []), (0, 1625, []), (3, 241, []), (3, 241, []), (3, 241, []), (0, 16, []), (3, 256, []), (0, 48, []), (0, 1152, []), (0, 32, []), (0, 32, []), (0, 1000, [])]
def cellOf (q : Nat × Nat × List Nat) (F : Nat → Int) : am_C := match q.1 with
  | 0 => cI q.2.1 F
  | 1 => cB q.2.1 F
  | 2 => cT q.2.1 F
  | 3 => cL q.2.1 F
  | 4 => cO q.2.1 (fsOf q.2.2 F 0)
  | 5 => cR (.object "PegStrings$Grid") q.2.1 (fun i => if i < q.2.1 then some (q.2.2.headD 0 + 4 * i) else none)
  | 6 => cR (.array .int) q.2.1 (fun i => if i < q.2.1 then some (q.2.2.headD 0 + i) else none)
  | _ => cR (.array .long) q.2.1 (fun i => if i < q.2.1 then some (q.2.2.headD 0 + i) else none)
def lay (a : Nat) : Nat × Nat × List Nat := mlay.getD a (8, 0, [])
def isg (g : Nat) : Prop := g = 2 ∨ g = 6 ∨ g = 11 ∨ g = 29 ∨ (106 ≤ g ∧ g ≤ 154 ∧ g % 4 = 2)
def ncel (a : Nat) : Prop := a < 2 ∨ a = 10 ∨ (15 ≤ a ∧ a ≤ 28) ∨ (33 ≤ a ∧ a ≤ 105) ∨ (158 ≤ a ∧ a ≤ 194)
def lcel (a : Nat) : Prop := a = 50 ∨ (83 ≤ a ∧ a ≤ 98) ∨ (185 ≤ a ∧ a ≤ 187) ∨ a = 189
/-- the heap as a memory m of whole numbers, grids γ, and what lies behind -/
def ST (h : am_H) (m : Nat → Nat → Int) (γ : Nat → Nat × Nat × (Nat → Int)) (t : am_H) : Prop :=
  (∀ a, ncel a → h[a]? = some (cellOf (lay a) (m a))) ∧ (∀ g, isg g → GG h g (γ g).1 (γ g).2.1 (γ g).2.2) ∧
  (h.length = 195 + t.length ∧ ∀ b, 195 ≤ b → h[b]? = t[b - 195]?) ∧
  (∀ a j, -9223372036854775808 ≤ m a j ∧ m a j < 9223372036854775808 ∧ (¬ lcel a → -2147483648 ≤ m a j ∧ m a j < 2147483648))
section STS
variable {E : am_E} {k M pc : Nat} {L L' : am_L} {st r : List Value} {h h1 : am_H} {m : Nat → Nat → Int} {γ : Nat → Nat × Nat × (Nat → Int)} {t : am_H} {Q : Option Value → am_H → Prop}
theorem ST.cell (S : ST h m γ t) (a : Nat) (ha : ncel a) : h[a]? = some (cellOf (lay a) (m a)) := S.1 a ha
theorem ST.gg (S : ST h m γ t) (g : Nat) (hg : isg g) : GG h g (γ g).1 (γ g).2.1 (γ g).2.2 := S.2.1 g hg
theorem ST.rg (S : ST h m γ t) (a j : Nat) (hl : ¬ lcel a) : -2147483648 ≤ m a j ∧ m a j < 2147483648 := (S.2.2.2 a j).2.2 hl
theorem ST.rl (S : ST h m γ t) (a j : Nat) : -9223372036854775808 ≤ m a j ∧ m a j < 9223372036854775808 := ⟨(S.2.2.2 a j).1, (S.2.2.2 a j).2.1⟩
theorem up_self {α : Type} {F : Nat → α} {i : Nat} {y : α} : up F i y i = y := if_pos rfl
theorem up_ne {α : Type} {F : Nat → α} {i j : Nat} {y : α} (h : j ≠ i) : up F i y j = F j := if_neg h
theorem ST.set (S : ST h m γ t) (a : Nat) (ha : ncel a) {F : Nat → Int} (hl : h1.length = h.length) (hz : h1[a]? = some (cellOf (lay a) F)) (hf : ∀ b : Nat, b ≠ a → h1[b]? = h[b]?)
    (hr : ∀ j, -9223372036854775808 ≤ F j ∧ F j < 9223372036854775808 ∧ (¬ lcel a → -2147483648 ≤ F j ∧ F j < 2147483648)) : ST h1 (up m a F) γ t := by
  refine ⟨fun b hb => ?_, fun g hg => ?_, ⟨hl.trans S.2.2.1.1, fun b hb => (hf b (by unfold ncel at ha; omega)).trans (S.2.2.1.2 b hb)⟩, fun b j => ?_⟩
  · by_cases hba : b = a
    · subst hba
      rw [up_self]
      exact hz
    · rw [up_ne hba, hf b hba]
      exact S.1 b hb
  · exact (S.2.1 g hg).same (fun b h2 h3 => hf b (by unfold ncel at ha; unfold isg at hg; omega))
  · by_cases hba : b = a
    · subst hba
      rw [up_self]
      exact hr j
    · rw [up_ne hba]
      exact S.2.2.2 b j
theorem ST.setI (S : ST h m γ t) (a : Nat) (ha : ncel a) {z : Nat} {y : Int} (hl : h1.length = h.length) (hz : h1[a]? = some (cellOf (lay a) (up (m a) z y))) (hf : ∀ b : Nat, b ≠ a → h1[b]? = h[b]?) (y1 : -2147483648 ≤ y) (y2 : y < 2147483648) : ST h1 (up m a (up (m a) z y)) γ t := by
  refine S.set a ha hl hz hf (fun j => ?_)
  by_cases hj : j = z
  · subst hj
    rw [up_self]
    omega
  · rw [up_ne hj]
    exact S.2.2.2 a j
theorem ST.setL (S : ST h m γ t) (a : Nat) (ha : ncel a) (hq : lcel a) {z : Nat} {y : Int} (hl : h1.length = h.length) (hz : h1[a]? = some (cellOf (lay a) (up (m a) z y))) (hf : ∀ b : Nat, b ≠ a → h1[b]? = h[b]?) (y1 : -9223372036854775808 ≤ y) (y2 : y < 9223372036854775808) : ST h1 (up m a (up (m a) z y)) γ t := by
  refine S.set a ha hl hz hf (fun j => ?_)
  by_cases hj : j = z
  · subst hj
    rw [up_self]
    exact ⟨y1, y2, fun h => absurd hq h⟩
  · rw [up_ne hj]
    exact S.2.2.2 a j
theorem ST.grid (S : ST h m γ t) {g R C : Nat} {kd : Nat → Int} (hg : isg g) (hF : FG h h1 g) (G : GG h1 g R C kd) : ST h1 m (up γ g (R, C, kd)) t := by
  refine ⟨fun b hb => ?_, fun g' hg' => ?_, ⟨hF.1.trans S.2.2.1.1, fun b hb => (hF.2 b (by unfold isg at hg; omega)).trans (S.2.2.1.2 b hb)⟩, S.2.2.2⟩
  · rw [hF.2 b (by unfold ncel at hb; unfold isg at hg; omega)]
    exact S.1 b hb
  · by_cases hgg : g' = g
    · subst hgg
      rw [up_self]
      exact G
    · rw [up_ne hgg]
      exact (S.2.1 g' hg').moved hF (by unfold isg at hg hg'; omega)
theorem ST.same_m {m2 : Nat → Nat → Int} (S : ST h m γ t) (e : m = m2) : ST h m2 γ t := e ▸ S
theorem up_rw {m : Nat → Nat → Int} {a : Nat} {F F2 : Nat → Int} : up (up m a F) a F2 = up m a F2 := by
  funext b
  unfold up
  split <;> rfl
/-- a row of rows, a row of grids -/
theorem wp_aald {a n b : Nat} {C : String} {f : Nat → Option Nat} {z : Int} (hc : am_code M pc = some .aaload) (hh : h[a]? = some (cR (.object C) n f)) (h0 : 0 ≤ z) (h1 : z < n) (hn : n ≤ 100000) (hb : f z.toNat = some b) (w : wp E k M (pc + 1) L (.ref b :: r) h Q) : wp E k M pc L (.int (iI z) :: .ref a :: r) h Q := by
  refine wp_s (q := (pc + 1, L, .ref b :: r, h)) hc ?_ w
  simp only [am_s, hh, cR, am_rda, am_inb_I h0 h1 hn, cond_true, iI_nat h0 (show z < 2147483648 by omega), hb]
  rfl
theorem wp_rald {a n b : Nat} {C : FieldType} {f : Nat → Option Nat} {z : Int} (hc : am_code M pc = some .aaload) (hh : h[a]? = some (cR (.array C) n f)) (h0 : 0 ≤ z) (h1 : z < n) (hn : n ≤ 100000) (hb : f z.toNat = some b) (w : wp E k M (pc + 1) L (.ref b :: r) h Q) : wp E k M pc L (.int (iI z) :: .ref a :: r) h Q := by
  refine wp_s (q := (pc + 1, L, .ref b :: r, h)) hc ?_ w
  simp only [am_s, hh, cR, am_rda, am_inb_I h0 h1 hn, cond_true, iI_nat h0 (show z < 2147483648 by omega), hb]
  rfl
theorem wp_bald {a n : Nat} {F : Nat → Int} {z : Int} (hc : am_code M pc = some .baload) (hh : h[a]? = some (cB n F)) (ha : a < 1000000) (h0 : 0 ≤ z) (h1 : z < n) (hn : n ≤ 100000) (w : wp E k M (pc + 1) L (.int (iI (F z.toNat)) :: r) h Q) : wp E k M pc L (.int (iI z) :: .ref a :: r) h Q := by
  refine wp_s (q := (pc + 1, L, .int (iI (F z.toNat)) :: r, h)) hc ?_ w
  simp only [am_s, am_arr, if_pos ha, hh, cB, am_rdb, am_inb_I h0 h1 hn, cond_true, iI_nat h0 (show z < 2147483648 by omega)]
theorem wp_tald {a n : Nat} {F : Nat → Int} {z : Int} (hc : am_code M pc = some .baload) (hh : h[a]? = some (cT n F)) (ha : a < 1000000) (h0 : 0 ≤ z) (h1 : z < n) (hn : n ≤ 100000) (w : wp E k M (pc + 1) L (.int (iI (F z.toNat)) :: r) h Q) : wp E k M pc L (.int (iI z) :: .ref a :: r) h Q := by
  refine wp_s (q := (pc + 1, L, .int (iI (F z.toNat)) :: r, h)) hc ?_ w
  simp only [am_s, am_arr, if_pos ha, hh, cT, am_rdb, am_inb_I h0 h1 hn, cond_true, iI_nat h0 (show z < 2147483648 by omega)]
theorem wp_lald {a n : Nat} {F : Nat → Int} {z : Int} (hc : am_code M pc = some .laload) (hh : h[a]? = some (cL n F)) (ha : a < 1000000) (h0 : 0 ≤ z) (h1 : z < n) (hn : n ≤ 100000) (w : wp E k M (pc + 1) L (.long (lI (F z.toNat)) :: r) h Q) : wp E k M pc L (.int (iI z) :: .ref a :: r) h Q := by
  refine wp_s (q := (pc + 1, L, .long (lI (F z.toNat)) :: r, h)) hc ?_ w
  simp only [am_s, am_arr, if_pos ha, hh, cL, am_rdl, am_inb_I h0 h1 hn, cond_true, iI_nat h0 (show z < 2147483648 by omega)]
theorem wp_lasF {a n : Nat} {F : Nat → Int} {z y : Int} (hc : am_code M pc = some .lastore) (hh : h[a]? = some (cL n F)) (h0 : 0 ≤ z) (h1 : z < n) (hn : n ≤ 100000) (w : ∀ h1 : am_H, h1.length = h.length → h1[a]? = some (cL n (up F z.toNat y)) → (∀ b : Nat, b ≠ a → h1[b]? = h[b]?) → wp E k M (pc + 1) L r h1 Q) : wp E k M pc L (.long (lI y) :: .int (iI z) :: .ref a :: r) h Q := by
  have e1 : vp_updL (fun j => lI (F j)) (iI z).toNatClampNeg (lI y) = fun j => lI (up F z.toNat y j) := by
    rw [iI_nat h0 (by omega)]
    funext j
    unfold vp_updL up
    split <;> rfl
  refine wp_s (q := (pc + 1, L, r, h.set a (cL n (up F z.toNat y)))) hc ?_ (w _ List.length_set (am_set_self hh) am_set_ne)
  simp only [am_s, am_wrl, hh, cL, am_inb_I h0 h1 hn, cond_true]
  rw [e1]
theorem wp_tasF {a n : Nat} {F : Nat → Int} {z y : Int} (hc : am_code M pc = some .bastore) (hh : h[a]? = some (cT n F)) (h0 : 0 ≤ z) (h1 : z < n) (hn : n ≤ 100000) (hy : y = 0 ∨ y = 1) (w : ∀ h1 : am_H, h1.length = h.length → h1[a]? = some (cT n (up F z.toNat y)) → (∀ b : Nat, b ≠ a → h1[b]? = h[b]?) → wp E k M (pc + 1) L r h1 Q) : wp E k M pc L (.int (iI y) :: .int (iI z) :: .ref a :: r) h Q := by
  have e0 : vp_nar .boolean (iI y) = iI y := by rcases hy with rfl | rfl <;> rfl
  refine wp_s (q := (pc + 1, L, r, h.set a (cT n (up F z.toNat y)))) hc ?_ (w _ List.length_set (am_set_self hh) am_set_ne)
  simp only [am_s, am_wrb, hh, cT, am_inb_I h0 h1 hn, cond_true]
  rw [e0, cI_upd h0 (by omega)]
theorem vp_nar_byteI {y : Int} (y1 : -128 ≤ y) (y2 : y < 128) : vp_nar .byte (iI y) = iI y := by
  have h1 : (iI y).toInt8 = Int8.ofInt y := by
    rw [← Int8.toInt_inj, Int32.toInt_toInt8, iI_toInt (by omega) (by omega), Int8.toInt_ofInt]
  have h2 : (Int8.ofInt y).toInt32 = iI y := by
    rw [← Int32.toInt_inj, Int8.toInt_toInt32, iI_toInt (by omega) (by omega), Int8.toInt_ofInt_of_le (by omega) (by omega)]
  show (iI y).toInt8.toInt32 = iI y
  rw [h1, h2]
theorem wp_basF {a n : Nat} {F : Nat → Int} {z y : Int} (hc : am_code M pc = some .bastore) (hh : h[a]? = some (cB n F)) (h0 : 0 ≤ z) (h1 : z < n) (hn : n ≤ 100000) (y1 : -128 ≤ y) (y2 : y < 128) (w : ∀ h1 : am_H, h1.length = h.length → h1[a]? = some (cB n (up F z.toNat y)) → (∀ b : Nat, b ≠ a → h1[b]? = h[b]?) → wp E k M (pc + 1) L r h1 Q) : wp E k M pc L (.int (iI y) :: .int (iI z) :: .ref a :: r) h Q := by
  refine wp_s (q := (pc + 1, L, r, h.set a (cB n (up F z.toNat y)))) hc ?_ (w _ List.length_set (am_set_self hh) am_set_ne)
  simp only [am_s, am_wrb, hh, cB, am_inb_I h0 h1 hn, cond_true]
  rw [vp_nar_byteI y1 y2, cI_upd h0 (by omega)]
theorem iI_b2 {a : Int} (a1 : -2147483648 ≤ a) (a2 : a < 2147483648) : (iI a).toInt8.toInt32 = iI (a.bmod 256) := by
  rw [← Int32.toInt_inj, Int8.toInt_toInt32, Int32.toInt_toInt8, iI_toInt a1 a2, iI_toInt]
  · have := Int.le_bmod (x := a) (m := 256) (by omega); omega
  · have := Int.bmod_lt (x := a) (m := 256) (by omega); omega
theorem wp_i2b {a : Int} (hc : am_code M pc = some .i2b) (a1 : -2147483648 ≤ a) (a2 : a < 2147483648) (w : wp E k M (pc + 1) L (.int (iI (a.bmod 256)) :: r) h Q) : wp E k M pc L (.int (iI a) :: r) h Q := by
  refine wp_s (q := (pc + 1, L, .int (iI a).toInt8.toInt32 :: r, h)) hc rfl ?_
  rw [iI_b2 a1 a2]
  exact w
theorem wp_getst {idx b : Nat} (hc : am_code M pc = some (.getstatic idx)) (hs : am_sta E (am_own1 M) idx = some (.ref b)) (w : wp E k M (pc + 3) L (.ref b :: st) h Q) : wp E k M pc L st h Q := by
  refine wp_s (q := (pc + 3, L, .ref b :: st, h)) hc ?_ w
  simp only [am_s, hs]
/-- the steps of a side -/
def sdX (z : Int) : Int := if z = 1 then 1 else if z = 3 then -1 else 0
def sdY (z : Int) : Int := if z = 0 then -1 else if z = 2 then 1 else 0
theorem wp_sdx {z : Int} (hc : am_code M pc = some .iaload) (z0 : 0 ≤ z) (z1 : z < 4) (w : wp E k M (pc + 1) L (.int (iI (sdX z)) :: r) h Q) : wp E k M pc L (.int (iI z) :: .ref 1001000 :: r) h Q := by
  refine wp_s (q := (pc + 1, L, .int (iI (sdX z)) :: r, h)) hc ?_ w
  have : z = 0 ∨ z = 1 ∨ z = 2 ∨ z = 3 := by omega
  rcases this with rfl | rfl | rfl | rfl <;> rfl
theorem wp_sdy {z : Int} (hc : am_code M pc = some .iaload) (z0 : 0 ≤ z) (z1 : z < 4) (w : wp E k M (pc + 1) L (.int (iI (sdY z)) :: r) h Q) : wp E k M pc L (.int (iI z) :: .ref 1001001 :: r) h Q := by
  refine wp_s (q := (pc + 1, L, .int (iI (sdY z)) :: r, h)) hc ?_ w
  have : z = 0 ∨ z = 1 ∨ z = 2 ∨ z = 3 := by omega
  rcases this with rfl | rfl | rfl | rfl <;> rfl
/-- the side across -/
theorem wp_xor2 {z : Int} (hc : am_code M pc = some .ixor) (z0 : 0 ≤ z) (z1 : z < 4) (w : wp E k M (pc + 1) L (.int (iI ((z + 2) % 4)) :: r) h Q) : wp E k M pc L (.int (iI 2) :: .int (iI z) :: r) h Q := by
  refine wp_s (q := (pc + 1, L, .int (iI ((z + 2) % 4)) :: r, h)) hc ?_ w
  have : z = 0 ∨ z = 1 ∨ z = 2 ∨ z = 3 := by omega
  rcases this with rfl | rfl | rfl | rfl <;> rfl
end STS
/-- PegStrings.at, as a value -/
def atn (n : Nat) (F : Nat → Int) (i : Int) : Int := if 0 ≤ i ∧ i < n then F i.toNat else -1
theorem atn_rg {n : Nat} {F : Nat → Int} (hF : ∀ j, -2147483648 ≤ F j ∧ F j < 2147483648) (i : Int) : -2147483648 ≤ atn n F i ∧ atn n F i < 2147483648 := by
  unfold atn
  split
  · exact hF _
  · omega
theorem atn_in {n : Nat} {F : Nat → Int} {i : Nat} (hi : i < n) : atn n F i = F i := by
  unfold atn
  rw [if_pos (by omega), Int.toNat_natCast]
theorem atn_inI {n : Nat} {F : Nat → Int} {i : Int} (h0 : 0 ≤ i) (hi : i < n) : atn n F i = F i.toNat := if_pos ⟨h0, hi⟩
theorem atn_out {n : Nat} {F : Nat → Int} {i : Int} (hi : ¬ (0 ≤ i ∧ i < n)) : atn n F i = -1 := if_neg hi
/-- PegStrings.put, as a row -/
def ptn (n : Nat) (F : Nat → Int) (i y : Int) : Nat → Int := if 0 ≤ i ∧ i < n then up F i.toNat y else F
theorem ptn_in {n : Nat} {F : Nat → Int} {i : Nat} {y : Int} (hi : i < n) : ptn n F i y = up F i y := by
  unfold ptn
  rw [if_pos (by omega), Int.toNat_natCast]
section STP
variable {E : am_E} {k : Nat} {h : am_H} {m : Nat → Nat → Int} {γ : Nat → Nat × Nat × (Nat → Int)} {t : am_H}
theorem ptn_rg {n : Nat} {F : Nat → Int} {i y : Int} (hF : ∀ j, -2147483648 ≤ F j ∧ F j < 2147483648) (y1 : -2147483648 ≤ y) (y2 : y < 2147483648) (j : Nat) : -2147483648 ≤ ptn n F i y j ∧ ptn n F i y j < 2147483648 := by
  unfold ptn
  split
  · unfold up
    split
    · omega
    · exact hF j
  · exact hF j
theorem c_at {a n : Nat} {F : Nat → Int} (hh : h[a]? = some (cI n F)) (ha : a < 1000000) (hn : n ≤ 100000) (i : Int) (i1 : -2147483648 ≤ i) (i2 : i < 2147483648) : wp E k 182 0 (am_entry [.ref a, .int (iI i)] 2) [] h (aI (atn n F i) h) := m_at hh ha hn i i1 i2
theorem c_put {a n : Nat} (S : ST h m γ t) (ha : ncel a) (hq : lay a = (0, n, [])) (hn : n ≤ 100000) (i y : Int) (i1 : -2147483648 ≤ i) (i2 : i < 2147483648) (y1 : -2147483648 ≤ y) (y2 : y < 2147483648) : wp E k 183 0 (am_entry [.ref a, .int (iI i), .int (iI y)] 3) [] h (fun r h1 => r = none ∧ ST h1 (up m a (ptn n (m a) i y)) γ t) := by
  have hh := S.1 a ha
  rw [hq] at hh
  have hlc : ¬ lcel a := by
    intro hl
    have : ∀ a, a < 195 → lcel a → (lay a).1 = 3 := by
      intro a _ hl
      unfold lcel at hl
      have h2 : a = 50 ∨ a = 83 ∨ a = 84 ∨ a = 85 ∨ a = 86 ∨ a = 87 ∨ a = 88 ∨ a = 89 ∨ a = 90 ∨ a = 91 ∨ a = 92 ∨ a = 93 ∨ a = 94 ∨ a = 95 ∨ a = 96 ∨ a = 97 ∨ a = 98 ∨ a = 185 ∨ a = 186 ∨ a = 187 ∨ a = 189 := by omega
      rcases h2 with rfl | rfl | rfl | rfl | rfl | rfl | rfl | rfl | rfl | rfl | rfl | rfl | rfl | rfl | rfl | rfl | rfl | rfl | rfl | rfl | rfl <;> rfl
    have h3 := this a (by unfold ncel at ha; omega) hl
    rw [hq] at h3
    simp at h3
  refine (m_put (F := m a) (n := n) hh (by unfold ncel at ha; omega) hn i y i1 i2).mono (fun r h1 q => ⟨q.1, S.set a ha q.2.1 ?_ q.2.2.2 (fun j => ?_)⟩)
  · rw [hq]
    exact q.2.2.1
  · have := ptn_rg (n := n) (i := i) (fun j => S.rg a j hlc) y1 y2 j
    omega
def flq (i : Nat) (v : Int) (F : Nat → Int) : Nat → Int := fun j => if j < i then v else F j
theorem flq_up {i : Nat} {v : Int} {F : Nat → Int} : up (flq i v F) i v = flq (i + 1) v F := by
  funext j
  unfold up flq
  by_cases h1 : j = i
  · rw [if_pos h1, if_pos (by omega)]
  · rw [if_neg h1]
    by_cases h2 : j < i
    · rw [if_pos h2, if_pos (by omega)]
    · rw [if_neg h2, if_neg (by omega)]
theorem flq_0 {v : Int} {F : Nat → Int} : flq 0 v F = F := rfl
end STP
