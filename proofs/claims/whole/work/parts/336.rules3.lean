section WPT
variable {E : am_E} {k M pc : Nat} {L L' : am_L} {st st' r : List Value} {h h' : am_H} {Q : Option Value → am_H → Prop}
theorem wp_tswO {d lo hi : Int} {offs : Array Int} {t : Nat} {z : Int} (hc : am_code M pc = some (.tableswitch d lo hi offs)) (z1 : -2147483648 ≤ z) (z2 : z < 2147483648) (hz : z < lo ∨ hi < z) (ht : am_tg pc d = some t) (w : wp E k M t L r h Q) : wp E k M pc L (.int (iI z) :: r) h Q := by
  refine wp_s (q := (t, L, r, h)) hc ?_ w
  simp only [am_s, iI_toInt z1 z2, if_pos hz, am_to, ht]
theorem wp_tswI {d lo hi : Int} {offs : Array Int} {t : Nat} {z off : Int} (hc : am_code M pc = some (.tableswitch d lo hi offs)) (z1 : -2147483648 ≤ z ∧ lo ≤ z) (z2 : z < 2147483648 ∧ z ≤ hi) (j : Nat) (hj : z - lo = j) (ho : offs[j]? = some off) (ht : am_tg pc off = some t) (w : wp E k M t L r h Q) : wp E k M pc L (.int (iI z) :: r) h Q := by
  refine wp_s (q := (t, L, r, h)) hc ?_ w
  have e1 : (z - lo).toNat = j := by omega
  simp only [am_s, iI_toInt z1.1 z2.1, if_neg (show ¬ (z < lo ∨ hi < z) by omega), e1, ho, am_to, ht]
theorem wp_L (w : wp E k M pc L' st h Q) (e : L = L') : wp E k M pc L st h Q := e ▸ w
end WPT
/-- how many of the first n are x -/
def cnt (F : Nat → Int) (x : Int) : Nat → Int
  | 0 => 0
  | j + 1 => cnt F x j + if F j = x then 1 else 0
theorem cnt_rng (F : Nat → Int) (x : Int) : ∀ j : Nat, 0 ≤ cnt F x j ∧ cnt F x j ≤ j
  | 0 => by simp [cnt]
  | j + 1 => by
    have := cnt_rng F x j
    simp only [cnt]
    split <;> omega
