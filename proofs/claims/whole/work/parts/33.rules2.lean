/-- an int field that this method may write -/
def am_mayint (M ci k : Nat) : Bool := match am_cls[ci]?, am_tys[ci]? with
  | some q, some t => decide (k < q.2.2) && decide (t k = .int) &&
    (!(q.2.1 k).2.2.2 || (decide (am_srts.getD M 0 = 2) && decide ((q.2.1 k).1 = am_own.getD (am_own1 M) "")))
  | _, _ => false
theorem am_mayint_ok {M ci k : Nat} (h : am_mayint M ci k = true) (x : Int32) : am_mayput M ci k (.int x) = true := by
  unfold am_mayint at h
  unfold am_mayput
  split at h
  · next q t hq ht =>
    rw [hq, ht]
    simp only [Bool.and_eq_true, decide_eq_true_eq] at h ⊢
    obtain ⟨⟨h1, h2⟩, h3⟩ := h
    rw [h2]
    exact ⟨⟨⟨h1, rfl⟩, rfl⟩, h3⟩
  · cases h
def am_maybool (M ci k : Nat) : Bool := match am_cls[ci]?, am_tys[ci]? with
  | some q, some t => decide (k < q.2.2) && decide (t k = .boolean) &&
    (!(q.2.1 k).2.2.2 || (decide (am_srts.getD M 0 = 2) && decide ((q.2.1 k).1 = am_own.getD (am_own1 M) "")))
  | _, _ => false
theorem am_maybool_ok {M ci k : Nat} (h : am_maybool M ci k = true) {z : Int} (hz : z = 0 ∨ z = 1) : am_mayput M ci k (.int (iI z)) = true := by
  unfold am_maybool at h
  unfold am_mayput
  split at h
  · next q t hq ht =>
    rw [hq, ht]
    simp only [Bool.and_eq_true, decide_eq_true_eq] at h ⊢
    obtain ⟨⟨h1, h2⟩, h3⟩ := h
    rw [h2]
    rcases hz with rfl | rfl
    · exact ⟨⟨⟨h1, rfl⟩, rfl⟩, h3⟩
    · exact ⟨⟨⟨h1, rfl⟩, rfl⟩, h3⟩
  · cases h
theorem am_set_self {h : am_H} {a : Nat} {c c0 : am_C} (hh : h[a]? = some c0) : (h.set a c)[a]? = some c := List.getElem?_set_self (List.getElem?_eq_some_iff.mp hh).1
theorem am_set_ne {h : am_H} {a : Nat} {c : am_C} : ∀ b : Nat, b ≠ a → (h.set a c)[b]? = h[b]? := fun b hb => List.getElem?_set_ne (Ne.symm hb)
section WPS
variable {E : am_E} {k M pc : Nat} {L L' : am_L} {st st' r : List Value} {h h' : am_H} {Q : Option Value → am_H → Prop}
theorem wp_putI {idx a ci kk p : Nat} {fs : List Value} {x : Int32} (hc : am_code M pc = some (.putfield idx)) (hf : am_fld (am_own1 M) idx = some (ci, kk, p)) (hh : h[a]? = some (cO ci fs)) (hk : kk < fs.length) (hm : am_mayint M ci kk = true) (w : ∀ h1 : am_H, h1.length = h.length → h1[a]? = some (cO ci (fs.set kk (.int x))) → (∀ b : Nat, b ≠ a → h1[b]? = h[b]?) → wp E k M (pc + 3) L r h1 Q) : wp E k M pc L (.int x :: .ref a :: r) h Q :=
  wp_putf hc hf hh hk (am_mayint_ok hm x) (w _ List.length_set (am_set_self hh) am_set_ne)
theorem wp_putZ {idx a ci kk p : Nat} {fs : List Value} {z : Int} (hc : am_code M pc = some (.putfield idx)) (hf : am_fld (am_own1 M) idx = some (ci, kk, p)) (hh : h[a]? = some (cO ci fs)) (hk : kk < fs.length) (hm : am_maybool M ci kk = true) (hz : z = 0 ∨ z = 1) (w : ∀ h1 : am_H, h1.length = h.length → h1[a]? = some (cO ci (fs.set kk (.int (iI z)))) → (∀ b : Nat, b ≠ a → h1[b]? = h[b]?) → wp E k M (pc + 3) L r h1 Q) : wp E k M pc L (.int (iI z) :: .ref a :: r) h Q :=
  wp_putf hc hf hh hk (am_maybool_ok hm hz) (w _ List.length_set (am_set_self hh) am_set_ne)
theorem wp_iasF {a n : Nat} {F : Nat → Int} {z y : Int} (hc : am_code M pc = some .iastore) (hh : h[a]? = some (cI n F)) (h0 : 0 ≤ z) (h1 : z < n) (hn : n ≤ 100000) (w : ∀ h1 : am_H, h1.length = h.length → h1[a]? = some (cI n (up F z.toNat y)) → (∀ b : Nat, b ≠ a → h1[b]? = h[b]?) → wp E k M (pc + 1) L r h1 Q) : wp E k M pc L (.int (iI y) :: .int (iI z) :: .ref a :: r) h Q :=
  wp_iast hc hh h0 h1 hn (w _ List.length_set (am_set_self hh) am_set_ne)
theorem iI_nI {z : Int} (h : 0 ≤ z) : iI z = nI z.toNat := by
  have : z = ((z.toNat : Nat) : Int) := by omega
  rw [this]
  exact Int32.ofInt_eq_ofNat
theorem iI_shr {a : Int} (s : Int32) (j : Nat) (hs : (s.toBitVec.smod 32).toNat = j) (a1 : 0 ≤ a) (a2 : a < 2147483648) : iI a >>> s = iI (a / (2 ^ j : Nat)) := by
  rw [iI_nI a1, pk_shrN (by omega) s j hs, iI_nI (Int.ediv_nonneg a1 (by exact Int.natCast_nonneg _))]
  congr 1
  rw [show a = ((a.toNat : Nat) : Int) by omega]
  simp only [Int.toNat_natCast]
  rfl
theorem iI_mask {a : Int} (m : Int32) (j : Nat) (hm : m.toBitVec.toNat = 2 ^ j - 1) (a1 : 0 ≤ a) (a2 : a < 2147483648) : iI a &&& m = iI (a % (2 ^ j : Nat)) := by
  have hp : 0 < 2 ^ j := Nat.two_pow_pos j
  rw [iI_nI a1, pk_andN (by omega) j hm, iI_nI (Int.emod_nonneg a (by omega))]
  congr 1
  rw [show a = ((a.toNat : Nat) : Int) by omega]
  simp only [Int.toNat_natCast]
  rfl
theorem wp_shr1 {a : Int} (hc : am_code M pc = some .ishr) (a1 : 0 ≤ a) (a2 : a < 2147483648) (w : wp E k M (pc + 1) L (.int (iI (a / 2)) :: r) h Q) : wp E k M pc L (.int (iI 1) :: .int (iI a) :: r) h Q :=
  wp_i2 (f := fun x y => x >>> (y &&& 31)) hc (fun _ => rfl) (iI_shr _ 1 (by decide) a1 a2) w
theorem wp_shr2 {a : Int} (hc : am_code M pc = some .ishr) (a1 : 0 ≤ a) (a2 : a < 2147483648) (w : wp E k M (pc + 1) L (.int (iI (a / 4)) :: r) h Q) : wp E k M pc L (.int (iI 2) :: .int (iI a) :: r) h Q :=
  wp_i2 (f := fun x y => x >>> (y &&& 31)) hc (fun _ => rfl) (iI_shr _ 2 (by decide) a1 a2) w
theorem wp_and1 {a : Int} (hc : am_code M pc = some .iand) (a1 : 0 ≤ a) (a2 : a < 2147483648) (w : wp E k M (pc + 1) L (.int (iI (a % 2)) :: r) h Q) : wp E k M pc L (.int (iI 1) :: .int (iI a) :: r) h Q :=
  wp_i2 (f := fun x y => x &&& y) hc (fun _ => rfl) (iI_mask _ 1 (by decide) a1 a2) w
theorem wp_and3 {a : Int} (hc : am_code M pc = some .iand) (a1 : 0 ≤ a) (a2 : a < 2147483648) (w : wp E k M (pc + 1) L (.int (iI (a % 4)) :: r) h Q) : wp E k M pc L (.int (iI 3) :: .int (iI a) :: r) h Q :=
  wp_i2 (f := fun x y => x &&& y) hc (fun _ => rfl) (iI_mask _ 2 (by decide) a1 a2) w
theorem wp_and63 {a : Int} (hc : am_code M pc = some .iand) (a1 : 0 ≤ a) (a2 : a < 2147483648) (w : wp E k M (pc + 1) L (.int (iI (a % 64)) :: r) h Q) : wp E k M pc L (.int (iI 63) :: .int (iI a) :: r) h Q :=
  wp_i2 (f := fun x y => x &&& y) hc (fun _ => rfl) (iI_mask _ 6 (by decide) a1 a2) w
end WPS
