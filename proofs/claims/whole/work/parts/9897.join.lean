/-! ===== Settings.note, join, part ===== -/
section JN
variable {E : am_E} {k : Nat} {m : MM} {γ : GM} {t : am_H}
theorem S_note {Q : MM → GM → am_H → Prop} {x y : Int} (r c : Nat) (hx : x = (r : Int)) (hy : y = (c : Int)) (hr : r ≤ 12) (hc : c ≤ 16) (hb : 0 ≤ m (37 + r) c ∧ m (37 + r) c ≤ 1000000) (hQ : Q (up m (37 + r) (up (m (37 + r)) c (m (37 + r) c + 1))) γ t) : TV E k 70 [.ref 28, .int (iI x), .int (iI y)] m γ t Q := by
  subst hx hy
  refine vc_X5_note (by omega) (by omega) ⟨fun z => absurd z (by omega), fun _ => ⟨fun _ => ⟨fun z => absurd z (by omega), fun _ => ⟨fun _ => ?_, fun z => absurd (by omega) z⟩⟩, fun z => absurd (by omega) z⟩⟩
  rw [Int.toNat_natCast, Int.toNat_natCast]
  exact ⟨by omega, by omega, by omega, by omega, fun m12 h => by rw [h]; exact hQ⟩
theorem S_join {Q : Int → MM → GM → am_H → Prop} {z1 z2 : Int} (x y a b : Nat) (hz1 : z1 = (x : Int)) (hz2 : z2 = (y : Int)) (hx : x < 128) (hy : y < 128) (ha : a < 128) (hb : b < 128) (h1 : m 33 x = (a : Int)) (h2 : m 33 y = (b : Int)) (q1 : a = y → Q 1 m γ t) (q0 : a ≠ y → Q 0 (up m 33 (up (up (m 33) a (b : Int)) b (a : Int))) γ t) : TI E (k + 1) 67 [.ref 28, .int (iI z1), .int (iI z2)] m γ t Q := by
  subst hz1 hz2
  refine vc_X5_join (by omega) (by omega) (S_at 128 rfl rfl rfl (by decide) (by omega) (fun _ => S_at 128 rfl rfl rfl (by decide) (by omega) (fun _ => ?_)))
  rw [atn_in (by omega), atn_in (by omega), h1, h2]
  refine ⟨fun c => q1 (by omega), fun c => S_put 128 rfl rfl (by decide) (by omega) (by omega) (S_put 128 rfl rfl (by decide) (by omega) (by omega) ?_)⟩
  have := q0 (fun q => c (by omega))
  rw [ptn_in (by omega), ptn_in (by omega), up_self, up_up]
  exact this
theorem S_part {Q : MM → GM → am_H → Prop} {z1 z2 : Int} (x y a b : Nat) (hz1 : z1 = (x : Int)) (hz2 : z2 = (y : Int)) (hx : x < 128) (hy : y < 128) (ha : a < 128) (hb : b < 128) (h1 : m 33 x = (a : Int)) (h2 : m 33 y = (b : Int)) (q1 : a = y → Q m γ t) (q0 : a ≠ y → Q (up m 33 (up (up (m 33) a (x : Int)) b (y : Int))) γ t) : TV E (k + 1) 68 [.ref 28, .int (iI z1), .int (iI z2)] m γ t Q := by
  subst hz1 hz2
  refine vc_X5_part (by omega) (by omega) (S_at 128 rfl rfl rfl (by decide) (by omega) (fun _ => ?_))
  rw [atn_in (by omega), h1]
  refine ⟨fun c => q1 (by omega), fun c => S_at 128 rfl rfl rfl (by decide) (by omega) (fun _ => ?_)⟩
  rw [atn_in (by omega), h1]
  refine S_put 128 rfl rfl (by decide) (by omega) (by omega) (S_at 128 rfl rfl rfl (by decide) (by omega) (fun _ => ?_))
  rw [ptn_in (by omega), up_self, atn_in (by omega), up_ne (show y ≠ a by omega), h2]
  refine S_put 128 rfl rfl (by decide) (by omega) (by omega) ?_
  have := q0 (fun q => c (by omega))
  rw [ptn_in (by omega), up_self, up_up]
  exact this
end JN
