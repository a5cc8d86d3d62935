/-! whole numbers in the small machine: Int32.ofInt z -/
abbrev iI (z : Int) : Int32 := Int32.ofInt z
abbrev lI (z : Int) : Int64 := Int64.ofInt z
def rI (z : Int) : Prop := -2147483648 ≤ z ∧ z < 2147483648
theorem iI_toInt {z : Int} (h1 : -2147483648 ≤ z) (h2 : z < 2147483648) : (iI z).toInt = z := Int32.toInt_ofInt_of_le h1 h2
theorem iI_add (a b : Int) : iI a + iI b = iI (a + b) := (Int32.ofInt_add a b).symm
theorem iI_sub (a b : Int) : iI a - iI b = iI (a - b) := (Int32.ofInt_sub a b).symm
theorem iI_mul (a b : Int) : iI a * iI b = iI (a * b) := (Int32.ofInt_mul a b).symm
theorem iI_neg (a : Int) : -iI a = iI (-a) := (Int32.ofInt_neg a).symm
theorem iI_of (x : Int32) : ∃ z : Int, -2147483648 ≤ z ∧ z < 2147483648 ∧ x = iI z := ⟨x.toInt, Int32.le_toInt x, Int32.toInt_lt x, (Int32.ofInt_toInt x).symm⟩
theorem iI_lt {a b : Int} (a1 : -2147483648 ≤ a) (a2 : a < 2147483648) (b1 : -2147483648 ≤ b) (b2 : b < 2147483648) : iI a < iI b ↔ a < b := by
  rw [Int32.lt_iff_toInt_lt, iI_toInt a1 a2, iI_toInt b1 b2]
theorem iI_le {a b : Int} (a1 : -2147483648 ≤ a) (a2 : a < 2147483648) (b1 : -2147483648 ≤ b) (b2 : b < 2147483648) : iI a ≤ iI b ↔ a ≤ b := by
  rw [Int32.le_iff_toInt_le, iI_toInt a1 a2, iI_toInt b1 b2]
theorem iI_eq {a b : Int} (a1 : -2147483648 ≤ a) (a2 : a < 2147483648) (b1 : -2147483648 ≤ b) (b2 : b < 2147483648) : iI a = iI b ↔ a = b := by
  rw [← Int32.toInt_inj, iI_toInt a1 a2, iI_toInt b1 b2]
theorem iI_nat {z : Int} (h1 : 0 ≤ z) (h2 : z < 2147483648) : (iI z).toNatClampNeg = z.toNat := by
  show (iI z).toInt.toNat = z.toNat
  rw [iI_toInt (by omega) h2]
def am_cmpI (c : ClassFile.Cond) (a b : Int) : Prop := match c with
  | .eq => a = b
  | .ne => ¬ a = b
  | .lt => a < b
  | .ge => b ≤ a
  | .gt => b < a
  | .le => a ≤ b
theorem am_cmp_I {c : ClassFile.Cond} {a b : Int} (a1 : -2147483648 ≤ a) (a2 : a < 2147483648) (b1 : -2147483648 ≤ b) (b2 : b < 2147483648) : (am_cmp c (iI a) (iI b) = true ↔ am_cmpI c a b) ∧ (am_cmp c (iI a) (iI b) = false ↔ ¬ am_cmpI c a b) := by
  have h1 : am_cmp c (iI a) (iI b) = true ↔ am_cmpI c a b := by
    cases c <;> simp only [am_cmp, am_cmpI, decide_eq_true_eq, Bool.not_eq_true', decide_eq_false_iff_not, iI_lt, iI_le, iI_eq, a1, a2, b1, b2]
  refine ⟨h1, ?_⟩
  rw [← h1]
  cases am_cmp c (iI a) (iI b) <;> simp
/-- a row of whole numbers -/
def cI (n : Nat) (F : Nat → Int) : am_C := .inl (.int, n, .inl (fun j => iI (F j)))
def cB (n : Nat) (F : Nat → Int) : am_C := .inl (.byte, n, .inl (fun j => iI (F j)))
def cZ (n : Nat) (F : Nat → Bool) : am_C := .inl (.boolean, n, .inl (fun j => if F j then 1 else 0))
def cL (n : Nat) (F : Nat → Int) : am_C := .inl (.long, n, .inr (.inl (fun j => lI (F j))))
def cO (ci : Nat) (fs : List Value) : am_C := .inr (ci, fs)
def up {α : Type} (F : Nat → α) (i : Nat) (y : α) : Nat → α := fun j => if j = i then y else F j
theorem cI_upd {F : Nat → Int} {z y : Int} (h1 : 0 ≤ z) (h2 : z < 2147483648) : upd (fun j => iI (F j)) (iI z).toNatClampNeg (iI y) = fun j => iI (up F z.toNat y j) := by
  rw [iI_nat h1 h2]
  funext j
  unfold upd up
  split <;> rfl
theorem am_inb_I {z : Int} {n : Nat} (h1 : 0 ≤ z) (h2 : z < n) (h3 : n ≤ 100000) : am_inb (iI z) n = true := by
  unfold am_inb
  have e1 : decide (iI z < 0) = false := decide_eq_false (by
    have := (iI_lt (a := z) (b := 0) (by omega) (by omega) (by omega) (by omega))
    rw [show (0 : Int32) = iI 0 from rfl, this]
    omega)
  have e2 : decide (n ≤ (iI z).toNatClampNeg) = false := decide_eq_false (by rw [iI_nat h1 (by omega)]; omega)
  rw [e1, e2]
  rfl
section WPI
variable {E : am_E} {k M pc : Nat} {L : am_L} {st r : List Value} {h : am_H} {Q : Option Value → am_H → Prop}
theorem wp_ifI {c : ClassFile.Cond} {off : Int} {t : Nat} {a : Int} (hc : am_code M pc = some (.ifCond c off)) (ht : am_tg pc off = some t) (a1 : -2147483648 ≤ a) (a2 : a < 2147483648) (w1 : am_cmpI c a 0 → wp E k M t L r h Q) (w2 : ¬ am_cmpI c a 0 → wp E k M (pc + 3) L r h Q) : wp E k M pc L (.int (iI a) :: r) h Q :=
  wp_if hc ht (fun z => w1 ((am_cmp_I a1 a2 (by decide) (by decide)).1.mp z)) (fun z => w2 ((am_cmp_I a1 a2 (by decide) (by decide)).2.mp z))
theorem wp_icmpI {c : ClassFile.Cond} {off : Int} {t : Nat} {a b : Int} (hc : am_code M pc = some (.if_icmp c off)) (ht : am_tg pc off = some t) (a1 : -2147483648 ≤ a) (a2 : a < 2147483648) (b1 : -2147483648 ≤ b) (b2 : b < 2147483648) (w1 : am_cmpI c a b → wp E k M t L r h Q) (w2 : ¬ am_cmpI c a b → wp E k M (pc + 3) L r h Q) : wp E k M pc L (.int (iI b) :: .int (iI a) :: r) h Q :=
  wp_icmp hc ht (fun z => w1 ((am_cmp_I a1 a2 b1 b2).1.mp z)) (fun z => w2 ((am_cmp_I a1 a2 b1 b2).2.mp z))
theorem wp_getf {idx a ci kk p : Nat} {fs : List Value} {v : Value} (hc : am_code M pc = some (.getfield idx)) (hf : am_fld (am_own1 M) idx = some (ci, kk, p)) (hh : h[a]? = some (cO ci fs)) (ha : a < 1000000) (hv : fs[kk]? = some v) (w : wp E k M (pc + 3) L (v :: r) h Q) : wp E k M pc L (.ref a :: r) h Q := by
  refine wp_s (q := (pc + 3, L, v :: r, h)) hc ?_ w
  have : am_gf (am_own1 M) idx a h = some v := by
    unfold am_gf
    rw [if_pos ha, hf, hh]
    show (if ci = ci then fs[kk]? else none) = some v
    rw [if_pos rfl, hv]
  simp only [am_s, this]
theorem wp_putf {idx a ci kk p : Nat} {fs : List Value} {v : Value} (hc : am_code M pc = some (.putfield idx)) (hf : am_fld (am_own1 M) idx = some (ci, kk, p)) (hh : h[a]? = some (cO ci fs)) (hk : kk < fs.length) (hm : am_mayput M ci kk v = true) (w : wp E k M (pc + 3) L r (h.set a (cO ci (fs.set kk v))) Q) : wp E k M pc L (v :: .ref a :: r) h Q := by
  refine wp_s (q := (pc + 3, L, r, h.set a (cO ci (fs.set kk v)))) hc ?_ w
  have : am_pf M idx a v h = some (h.set a (cO ci (fs.set kk v))) := by
    unfold am_pf
    rw [hf, hh]
    show (if ci = ci ∧ kk < fs.length ∧ am_mayput M ci kk v = true then _ else none) = _
    rw [if_pos ⟨rfl, hk, hm⟩]
    rfl
  simp only [am_s, this]
theorem wp_iald {a n : Nat} {F : Nat → Int} {z : Int} (hc : am_code M pc = some .iaload) (hh : h[a]? = some (cI n F)) (ha : a < 1000000) (h0 : 0 ≤ z) (h1 : z < n) (hn : n ≤ 100000) (w : wp E k M (pc + 1) L (.int (iI (F z.toNat)) :: r) h Q) : wp E k M pc L (.int (iI z) :: .ref a :: r) h Q := by
  refine wp_s (q := (pc + 1, L, .int (iI (F z.toNat)) :: r, h)) hc ?_ w
  simp only [am_s, am_arr, if_pos ha, hh, cI, am_rdi, am_inb_I h0 h1 hn, cond_true, iI_nat h0 (show z < 2147483648 by omega)]
theorem wp_iast {a n : Nat} {F : Nat → Int} {z y : Int} (hc : am_code M pc = some .iastore) (hh : h[a]? = some (cI n F)) (h0 : 0 ≤ z) (h1 : z < n) (hn : n ≤ 100000) (w : wp E k M (pc + 1) L r (h.set a (cI n (up F z.toNat y))) Q) : wp E k M pc L (.int (iI y) :: .int (iI z) :: .ref a :: r) h Q := by
  refine wp_s (q := (pc + 1, L, r, h.set a (cI n (up F z.toNat y)))) hc ?_ w
  simp only [am_s, am_wri, hh, cI, am_inb_I h0 h1 hn, cond_true]
  rw [cI_upd h0 (by omega)]
theorem wp_alen {a n : Nat} {F : Nat → Int} (hc : am_code M pc = some .arraylength) (hh : h[a]? = some (cI n F)) (ha : a < 1000000) (w : wp E k M (pc + 1) L (.int (iI n) :: r) h Q) : wp E k M pc L (.ref a :: r) h Q := by
  refine wp_s (q := (pc + 1, L, .int (iI n) :: r, h)) hc ?_ w
  simp only [am_s, am_arr, if_pos ha, hh, cI]
  rfl
theorem wp_i2 {i : Instr} {a b c : Int32} {f : Int32 → Int32 → Int32} (hc : am_code M pc = some i) (hi : ∀ st, am_s E M i pc L st h = am_ii f pc L st h) (hf : f a b = c) (w : wp E k M (pc + 1) L (.int c :: r) h Q) : wp E k M pc L (.int b :: .int a :: r) h Q := by
  subst hf
  exact wp_s (q := (pc + 1, L, .int (f a b) :: r, h)) hc (by rw [hi]; rfl) w
theorem wp_goto {off : Int} {t : Nat} (hc : am_code M pc = some (.goto off)) (ht : am_tg pc off = some t) (w : wp E k M t L st h Q) : wp E k M pc L st h Q :=
  wp_s (q := (t, L, st, h)) hc (by simp only [am_s, am_to, ht]) w
end WPI
