/-! ===== runs of the small machine, goal first ===== -/
theorem am_exec_more {E : am_E} : ∀ (n d M pc : Nat) (L : am_L) (st : List Value) (h : am_H) (w : Option Value × am_H), am_exec E n d M pc L st h = some w → am_exec E (n + 1) d M pc L st h = some w
  | 0, d, M, pc, L, st, h, w, hs => by simp [am_exec] at hs
  | n + 1, d, M, pc, L, st, h, w, hs => by
    rw [am_exec] at hs ⊢
    cases hc : am_code M pc with
    | none => rw [hc] at hs; cases hs
    | some i =>
      rw [hc] at hs
      simp only at hs ⊢
      cases hq : am_s E M i pc L st h with
      | some q =>
        rw [hq] at hs
        exact am_exec_more n _ _ _ _ _ _ _ hs
      | none =>
        rw [hq] at hs
        simp only at hs ⊢
        cases hr : am_rt M i st with
        | some r => rw [hr] at hs; exact hs
        | none =>
          rw [hr] at hs
          simp only at hs ⊢
          cases hl : am_cl M i st h with
          | none => rw [hl] at hs; cases hs
          | some q =>
            rw [hl] at hs
            cases d with
            | zero => cases hs
            | succ d =>
              simp only at hs ⊢
              cases hw : am_exec E n d q.1 0 (am_entry q.2.1 (am_mls.getD q.1 0)) [] h with
              | none => rw [hw] at hs; cases hs
              | some w1 =>
                rw [hw] at hs
                rw [am_exec_more n _ _ _ _ _ _ _ hw]
                exact am_exec_more n _ _ _ _ _ _ _ hs
theorem am_exec_le {E : am_E} {n n' d M pc : Nat} {L : am_L} {st : List Value} {h : am_H} {w : Option Value × am_H} (hs : am_exec E n d M pc L st h = some w) (hn : n ≤ n') : am_exec E n' d M pc L st h = some w := by
  obtain ⟨k, rfl⟩ := Nat.exists_eq_add_of_le hn
  clear hn
  induction k with
  | zero => exact hs
  | succ k ih => exact am_exec_more _ _ _ _ _ _ _ _ ih
/-- from here the method comes to its end with Q; k: how many calls may stand open beyond it -/
def wp (E : am_E) (k M pc : Nat) (L : am_L) (st : List Value) (h : am_H) (Q : Option Value → am_H → Prop) : Prop :=
  ∃ r h', Q r h' ∧ ∀ d, k ≤ d → ∃ n, am_exec E n d M pc L st h = some (r, h')
section WP
variable {E : am_E} {k M pc : Nat} {L : am_L} {st : List Value} {h : am_H} {Q : Option Value → am_H → Prop}
theorem wp.mono {Q' : Option Value → am_H → Prop} (w : wp E k M pc L st h Q) (hq : ∀ r h', Q r h' → Q' r h') : wp E k M pc L st h Q' := by
  obtain ⟨r, h', q, x⟩ := w
  exact ⟨r, h', hq r h' q, x⟩
theorem wp.deep {k' : Nat} (w : wp E k M pc L st h Q) (hk : k ≤ k') : wp E k' M pc L st h Q := by
  obtain ⟨r, h', q, x⟩ := w
  exact ⟨r, h', q, fun d hd => x d (Nat.le_trans hk hd)⟩
theorem wp_s {i : Instr} {q : Nat × am_L × List Value × am_H} (hc : am_code M pc = some i) (hs : am_s E M i pc L st h = some q) (w : wp E k M q.1 q.2.1 q.2.2.1 q.2.2.2 Q) : wp E k M pc L st h Q := by
  obtain ⟨r, h', hq, x⟩ := w
  refine ⟨r, h', hq, fun d hd => ?_⟩
  obtain ⟨n, hn⟩ := x d hd
  refine ⟨n + 1, ?_⟩
  rw [am_exec, hc]
  simp only [hs]
  exact hn
theorem wp_ret {i : Instr} {r : Option Value} (hc : am_code M pc = some i) (hs : am_s E M i pc L st h = none) (hr : am_rt M i st = some r) (hq : Q r h) : wp E k M pc L st h Q := by
  refine ⟨r, h, hq, fun d hd => ⟨1, ?_⟩⟩
  rw [am_exec, hc]
  simp only [hs, hr]
theorem wp_call {i : Instr} {M' : Nat} {vs rest : List Value} {Q1 : Option Value → am_H → Prop} (hc : am_code M pc = some i) (hs : am_s E M i pc L st h = none) (hr : am_rt M i st = none) (hl : am_cl M i st h = some (M', vs, rest)) (w1 : wp E k M' 0 (am_entry vs (am_mls.getD M' 0)) [] h Q1) (w : ∀ r1 h1, Q1 r1 h1 → wp E (k + 1) M (pc + 3) L (r1.toList ++ rest) h1 Q) : wp E (k + 1) M pc L st h Q := by
  obtain ⟨r1, h1, q1, x1⟩ := w1
  obtain ⟨r, h', hq, x⟩ := w r1 h1 q1
  refine ⟨r, h', hq, fun d hd => ?_⟩
  cases d with
  | zero => omega
  | succ d =>
    obtain ⟨n1, hn1⟩ := x1 d (by omega)
    obtain ⟨n2, hn2⟩ := x (d + 1) hd
    refine ⟨n1 + n2 + 1, ?_⟩
    rw [am_exec, hc]
    simp only [hs, hr, hl]
    rw [am_exec_le hn1 (Nat.le_add_right n1 n2)]
    exact am_exec_le hn2 (Nat.le_add_left n2 n1)
/-- several plain instructions -/
def am_go (E : am_E) (M : Nat) : Nat → Nat → am_L → List Value → am_H → am_R
  | 0, pc, L, st, h => some (pc, L, st, h)
  | n + 1, pc, L, st, h => match am_code M pc with
    | none => none
    | some i => match am_s E M i pc L st h with
      | none => none
      | some q => am_go E M n q.1 q.2.1 q.2.2.1 q.2.2.2
theorem wp_go : ∀ {n pc : Nat} {L : am_L} {st : List Value} {h : am_H} {q : Nat × am_L × List Value × am_H}, am_go E M n pc L st h = some q → wp E k M q.1 q.2.1 q.2.2.1 q.2.2.2 Q → wp E k M pc L st h Q
  | 0, pc, L, st, h, q, hs, w => by
    simp only [am_go, Option.some.injEq] at hs
    subst hs
    exact w
  | n + 1, pc, L, st, h, q, hs, w => by
    simp only [am_go] at hs
    split at hs
    · cases hs
    · next i hc =>
      split at hs
      · cases hs
      · next q1 hq1 => exact wp_s hc hq1 (wp_go hs w)
theorem wp_if {c : ClassFile.Cond} {off : Int} {t : Nat} {x : Int32} {r : List Value} (hc : am_code M pc = some (.ifCond c off)) (ht : am_tg pc off = some t) (w1 : am_cmp c x 0 = true → wp E k M t L r h Q) (w2 : am_cmp c x 0 = false → wp E k M (pc + 3) L r h Q) : wp E k M pc L (.int x :: r) h Q := by
  cases hx : am_cmp c x 0 with
  | true => exact wp_s (q := (t, L, r, h)) hc (by simp only [am_s, am_br, ht, hx, cond_true]) (w1 hx)
  | false => exact wp_s (q := (pc + 3, L, r, h)) hc (by simp only [am_s, am_br, ht, hx, cond_false]) (w2 hx)
theorem wp_icmp {c : ClassFile.Cond} {off : Int} {t : Nat} {x y : Int32} {r : List Value} (hc : am_code M pc = some (.if_icmp c off)) (ht : am_tg pc off = some t) (w1 : am_cmp c x y = true → wp E k M t L r h Q) (w2 : am_cmp c x y = false → wp E k M (pc + 3) L r h Q) : wp E k M pc L (.int y :: .int x :: r) h Q := by
  cases hx : am_cmp c x y with
  | true => exact wp_s (q := (t, L, r, h)) hc (by simp only [am_s, am_br, ht, hx, cond_true]) (w1 hx)
  | false => exact wp_s (q := (pc + 3, L, r, h)) hc (by simp only [am_s, am_br, ht, hx, cond_false]) (w2 hx)
end WP
