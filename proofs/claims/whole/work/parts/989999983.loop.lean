/-! ===== the law's loop, to its end ===== -/
theorem law_loop {E : am_E} {Q : Int → MM → GM → am_H → Prop} (hE : EV E) (hL : E.1.1 ≤ 3072) (hQ : ∀ m γ t, TB 3072 t → Q 1 m γ t) : ∀ (n : Nat) (y3 : Int) (m : MM) (γ : GM) (t : am_H) (a : AST), 0 ≤ y3 → y3 ≤ 3072 → (E.1.1 : Int) < y3 + 6 * n + 6 → CI m γ a → RI m a → TB y3 t → hd_L_law_18 E 39 y3 m γ t Q := by
  intro n
  induction n with
  | zero =>
    intro y3 m γ t a h0 h1 h2 hC hR ht
    refine vc_L_law_18 (by omega) ⟨by omega, fun c => absurd c (by omega), fun _ => hQ m γ t ⟨by have := ht.1; omega, ht.2⟩⟩
  | succ n ih =>
    intro y3 m γ t a h0 h1 h2 hC hR ht
    have hy : rJ y3 := by omega
    have htl : t.length < 900000 := by have := ht.1; omega
    refine vc_L_law_18 hy ⟨by omega, fun c => ⟨⟨⟨h0, by omega⟩, hL⟩, ?_⟩, fun _ => hQ m γ t ⟨by have := ht.1; omega, ht.2⟩⟩
    have sc : ∀ d : Int, 1 ≤ d → d ≤ 5 → scO E (y3 + d) := fun d h3 h4 => ⟨⟨by omega, by omega⟩, hL⟩
    have nx : ∀ m1 γ1 t1 a1, CI m1 γ1 a1 → RI m1 a1 → TB (y3 + 6) t1 → hd_L_law_1870 E 39 y3 m1 γ1 t1 Q := fun m1 γ1 t1 a1 c1 r1 b1 => vc_L_law_1870 hy (ih (y3 + 6) m1 γ1 t1 a1 (by omega) (by omega) (by omega) c1 r1 b1)
    refine ⟨fun _ => law_feed hE sc hy hC hR ht htl nx, fun _ => ?_⟩
    refine ⟨fun _ => law_end hE sc hy hC hR ht htl nx, fun _ => ?_⟩
    refine ⟨fun _ => law_told hE sc hy hC hR ht htl nx, fun _ => ?_⟩
    refine ⟨fun _ => law_fault hE sc hy hC hR ht htl nx, fun _ => ?_⟩
    refine ⟨fun _ => law_count hE sc hy hC hR ht htl nx, fun _ => ?_⟩
    refine ⟨fun _ => law_look hE sc hy hC hR ht htl nx, fun _ => ?_⟩
    refine ⟨fun _ => law_edge hE sc hy hC hR ht htl nx, fun _ => ?_⟩
    refine ⟨fun _ => law_name hE sc hy hC hR ht htl nx, fun _ => ?_⟩
    refine ⟨fun _ => law_edgeOf hE sc hy hC hR ht htl nx, fun _ => ?_⟩
    refine ⟨fun _ => law_strand hE sc hy hC hR ht htl nx, fun _ => ?_⟩
    refine ⟨fun _ => law_place hE sc hy hC hR ht htl nx, fun _ => ?_⟩
    refine ⟨fun _ => law_walk hE sc hy hC hR ht htl nx, fun _ => ?_⟩
    refine ⟨fun _ => law_length hE sc hy hC hR ht htl nx, fun _ => ?_⟩
    refine ⟨fun _ => law_meets hE sc hy hC hR ht htl nx, fun _ => ?_⟩
    refine ⟨fun _ => law_over hE sc hy hC hR ht htl nx, fun _ => ?_⟩
    refine ⟨fun _ => law_sign hE sc hy hC hR ht htl nx, fun _ => ?_⟩
    refine ⟨fun _ => law_twist hE sc hy hC hR ht htl nx, fun _ => ?_⟩
    refine ⟨fun _ => law_link hE sc hy hC hR ht htl nx, fun _ => ?_⟩
    refine ⟨fun _ => law_alternates hE sc hy hC hR ht htl nx, fun _ => ?_⟩
    refine ⟨fun _ => law_passed hE sc hy hC hR ht htl nx, fun _ => ?_⟩
    refine ⟨fun _ => law_interlaced hE sc hy hC hR ht htl nx, fun _ => ?_⟩
    refine ⟨fun _ => law_visits hE sc hy hC hR ht htl nx, fun _ => ?_⟩
    refine ⟨fun _ => law_winds hE sc hy hC hR ht htl nx, fun _ => ?_⟩
    refine ⟨fun _ => law_paint hE sc hy hC hR ht htl nx, fun _ => ?_⟩
    refine ⟨fun _ => law_painted hE sc hy hC hR ht htl nx, fun _ => ?_⟩
    refine ⟨fun _ => law_loops hE sc hy hC hR ht htl nx, fun _ => ?_⟩
    refine ⟨fun _ => law_settings hE sc hy hC hR ht htl nx, fun _ => ?_⟩
    refine ⟨fun _ => law_bracket hE sc hy hC hR ht htl nx, fun _ => ?_⟩
    refine ⟨fun _ => law_smooth hE sc hy hC hR ht htl nx, fun _ => ?_⟩
    refine ⟨fun _ => law_trees hE sc hy hC hR ht htl nx, fun _ => ?_⟩
    refine ⟨fun _ => law_colours hE sc hy hC hR ht htl nx, fun _ => ?_⟩
    refine ⟨fun _ => law_needs hE sc hy hC hR ht htl nx, fun _ => ?_⟩
    refine ⟨fun _ => law_oneLine hE sc hy hC hR ht htl nx, fun _ => ?_⟩
    refine ⟨fun _ => law_eases hE sc hy hC hR ht htl nx, fun _ => ?_⟩
    refine ⟨fun _ => law_sets hE sc hy hC hR ht htl nx, fun _ => ?_⟩
    refine ⟨fun _ => law_all hE sc hy hC hR ht htl nx, fun _ => ?_⟩
    refine ⟨fun _ => law_under hE sc hy hC hR ht htl nx, fun _ => ?_⟩
    refine ⟨fun _ => law_quarter hE sc hy hC hR ht htl nx, fun _ => ?_⟩
    refine ⟨fun _ => law_mirror hE sc hy hC hR ht htl nx, fun _ => ?_⟩
    refine ⟨fun _ => law_beside hE sc hy hC hR ht htl nx, fun _ => ?_⟩
    refine ⟨fun _ => law_alike hE sc hy hC hR ht htl nx, fun _ => ?_⟩
    refine ⟨fun _ => law_same hE sc hy hC hR ht htl nx, fun _ => ?_⟩
    refine ⟨fun _ => law_plain hE sc hy hC hR ht htl nx, fun _ => ?_⟩
    refine ⟨fun _ => law_drops hE sc hy hC hR ht htl nx, fun _ => ?_⟩
    refine ⟨fun _ => law_undo hE sc hy hC hR ht htl nx, fun _ => ?_⟩
    refine ⟨fun _ => law_tell hE sc hy hC hR ht htl nx, fun _ => ?_⟩
    refine ⟨fun _ => law_octet hE sc hy hC hR ht htl nx, fun _ => ?_⟩
    exact nx m γ t a hC hR ht.same
