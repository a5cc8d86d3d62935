/-! ===== reading a grid token by token; the class's readInto ===== -/
/-- what is due, rows, kind, cell, the grid so far, where the next token is looked for -/
abbrev PS : Type := Nat × Int × Int × Int × GV × Nat
def edg (s : PS) (w : Int) : Int := geb s.2.2.2.2.1.1 s.2.2.2.2.1.2.1 (2 * s.2.2.2.1.toNat + (if w = 4 then 0 else 1))
noncomputable def fl (tp : List Int) (s : PS) : Int :=
  if s.1 = 0 then ift (kst tp s.2.2.2.2.2 = 1 ∧ kv tp s.2.2.2.2.2 = 0) 0 1
  else if s.1 = 1 ∨ s.1 = 2 then ift (kst tp s.2.2.2.2.2 = 2) (ift (1 ≤ kv tp s.2.2.2.2.2 ∧ kv tp s.2.2.2.2.2 ≤ 4) 0 2) 1
  else if s.1 = 3 then ift (kst tp s.2.2.2.2.2 = 3 ∧ kv tp s.2.2.2.2.2 = 59) 0 1
  else if s.1 = 4 then ift (kst tp s.2.2.2.2.2 = 1 ∧ 1 ≤ kv tp s.2.2.2.2.2 ∧ kv tp s.2.2.2.2.2 ≤ 3) 0 1
  else if s.1 = 5 then ift (kst tp s.2.2.2.2.2 = 2) (ift (kv tp s.2.2.2.2.2 < ((s.2.2.2.2.1.1 * s.2.2.2.2.1.2.1 : Nat) : Int)) 0 2) 1
  else if s.1 = 6 then ift (kst tp s.2.2.2.2.2 = 1 ∧ (kv tp s.2.2.2.2.2 = 4 ∨ kv tp s.2.2.2.2.2 = 5)) (if edg s (kv tp s.2.2.2.2.2) = -1 then 3 else if s.2.2.2.2.1.2.2 (edg s (kv tp s.2.2.2.2.2)).toNat = 0 then 0 else 4) 1
  else ift (kst tp s.2.2.2.2.2 = 3 ∧ (kv tp s.2.2.2.2.2 = 59 ∨ kv tp s.2.2.2.2.2 = 44)) 0 1
noncomputable def nxs (tp : List Int) (s : PS) : PS :=
  if s.1 = 0 then (1, s.2.1, s.2.2.1, s.2.2.2.1, s.2.2.2.2.1, kq tp s.2.2.2.2.2)
  else if s.1 = 1 then (2, kv tp s.2.2.2.2.2, s.2.2.1, s.2.2.2.1, s.2.2.2.2.1, kq tp s.2.2.2.2.2)
  else if s.1 = 2 then (3, s.2.1, s.2.2.1, s.2.2.2.1, (s.2.1.toNat, (kv tp s.2.2.2.2.2).toNat, fun _ => 0), kq tp s.2.2.2.2.2)
  else if s.1 = 3 then (4, s.2.1, s.2.2.1, s.2.2.2.1, s.2.2.2.2.1, kq tp s.2.2.2.2.2)
  else if s.1 = 4 then (5, s.2.1, kv tp s.2.2.2.2.2, s.2.2.2.1, s.2.2.2.2.1, kq tp s.2.2.2.2.2)
  else if s.1 = 5 then (6, s.2.1, s.2.2.1, kv tp s.2.2.2.2.2, s.2.2.2.2.1, kq tp s.2.2.2.2.2)
  else if s.1 = 6 then (7, s.2.1, s.2.2.1, s.2.2.2.1, (s.2.2.2.2.1.1, s.2.2.2.2.1.2.1, up s.2.2.2.2.1.2.2 (edg s (kv tp s.2.2.2.2.2)).toNat s.2.2.1), kq tp s.2.2.2.2.2)
  else (if kv tp s.2.2.2.2.2 = 59 then 4 else 5, s.2.1, s.2.2.1, s.2.2.2.1, s.2.2.2.2.1, kq tp s.2.2.2.2.2)
noncomputable def run (tp : List Int) : Nat → PS → (Int × Int) × GV
  | 0, s => ((0, -1), s.2.2.2.2.1)
  | f + 1, s => if kst tp s.2.2.2.2.2 = 0 ∧ s.1 = 4 then ((0, -1), s.2.2.2.2.1) else if fl tp s = 0 then run tp f (nxs tp s) else ((fl tp s, (kb tp s.2.2.2.2.2 : Int)), s.2.2.2.2.1)
/-- a state that can be -/
def PV (tp : List Int) (s : PS) : Prop := s.1 ≤ 7 ∧ s.2.2.2.2.2 ≤ tp.length ∧ (s.1 = 2 → 1 ≤ s.2.1 ∧ s.2.1 ≤ 4) ∧ (vG s.2.2.2.2.1 ∧ nG s.2.2.2.2.1) ∧ (3 ≤ s.1 → 0 < s.2.2.2.2.1.1) ∧ (5 ≤ s.1 → 1 ≤ s.2.2.1 ∧ s.2.2.1 ≤ 3) ∧ (s.1 = 6 → 0 ≤ s.2.2.2.1 ∧ s.2.2.2.1 < ((s.2.2.2.2.1.1 * s.2.2.2.2.1.2.1 : Nat) : Int))
theorem xE {C : Prop} {a b : Nat} (q : a = b) (h : Nat.beq a b = false) : C := by
  rw [q, Nat.beq_refl] at h
  cases h
theorem xL {C : Prop} {a b : Nat} (q : a ≤ b) (h : Nat.ble a b = false) : C := by
  rw [Nat.ble_eq_true_of_le q] at h
  cases h
theorem nxs_p (tp : List Int) (s : PS) : (nxs tp s).2.2.2.2.2 = kq tp s.2.2.2.2.2 := by
  unfold nxs
  (repeat' split) <;> rfl
theorem nxs_7 {tp : List Int} {s : PS} : (nxs tp s).1 ≤ 7 := by
  unfold nxs
  (repeat' split) <;> exact Nat.le_of_ble_eq_true rfl
theorem fl_k {tp : List Int} {s : PS} (hs : s.1 ≤ 7) (h : fl tp s = 0) : kst tp s.2.2.2.2.2 ≠ 0 := by
  intro hk
  unfold fl at h
  rw [hk] at h
  have f1 : ∀ (P : Prop) (c : Nat), c ≠ 0 → ift (0 = c ∧ P) 0 1 = 1 := fun P c hc => ift_f (fun z => hc z.1.symm)
  have f2 : ∀ (c : Nat) (x : Int), c ≠ 0 → ift (0 = c) x 1 = 1 := fun c x hc => ift_f (fun z => hc z.symm)
  have f3 : ∀ (P : Prop) (c : Nat) (x : Int), c ≠ 0 → ift (0 = c ∧ P) x 1 = 1 := fun P c x hc => ift_f (fun z => hc z.1.symm)
  rw [f1 _ 1 (by decide), f2 2 _ (by decide), f1 _ 3 (by decide), f1 _ 1 (by decide), f2 2 _ (by decide), f3 _ 1 _ (by decide), f1 _ 3 (by decide)] at h
  (repeat' split at h) <;> exact absurd h (by decide)
theorem run_st {tp : List Int} : ∀ (f f' : Nat) (s : PS), s.2.2.2.2.2 ≤ tp.length → (∀ s' : PS, s'.1 ≤ 7 ∨ True) → (s.1 ≤ 7) → tp.length + 1 ≤ f + s.2.2.2.2.2 → tp.length + 1 ≤ f' + s.2.2.2.2.2 → run tp f s = run tp f' s
  | 0, f', s, hp, _, _, h1, _ => absurd h1 (by omega)
  | f + 1, 0, s, hp, _, _, _, h2 => absurd h2 (by omega)
  | f + 1, f' + 1, s, hp, hq, h7, h1, h2 => by
    show (if kst tp s.2.2.2.2.2 = 0 ∧ s.1 = 4 then ((0, -1), s.2.2.2.2.1) else if fl tp s = 0 then run tp f (nxs tp s) else ((fl tp s, (kb tp s.2.2.2.2.2 : Int)), s.2.2.2.2.1)) = (if kst tp s.2.2.2.2.2 = 0 ∧ s.1 = 4 then ((0, -1), s.2.2.2.2.1) else if fl tp s = 0 then run tp f' (nxs tp s) else ((fl tp s, (kb tp s.2.2.2.2.2 : Int)), s.2.2.2.2.1))
    by_cases c : fl tp s = 0
    · have hk := fl_k h7 c
      obtain ⟨g1, g2, g3, g4, g5⟩ := kq_gt hp
      have g6 := g5 hk
      have e := nxs_p tp s
      rw [if_pos c, if_pos c, run_st f f' (nxs tp s) (by rw [e]; exact g3) hq nxs_7 (by rw [e]; omega) (by rw [e]; omega)]
    · rw [if_neg c, if_neg c]
noncomputable def RUN (tp : List Int) (s : PS) : (Int × Int) × GV := run tp (tp.length + 2) s
theorem RUN_e {tp : List Int} {s : PS} (h1 : kst tp s.2.2.2.2.2 = 0) (h2 : s.1 = 4) : RUN tp s = ((0, -1), s.2.2.2.2.1) := if_pos ⟨h1, h2⟩
theorem RUN_f {tp : List Int} {s : PS} (h1 : ¬ (kst tp s.2.2.2.2.2 = 0 ∧ s.1 = 4)) (h2 : fl tp s ≠ 0) : RUN tp s = ((fl tp s, (kb tp s.2.2.2.2.2 : Int)), s.2.2.2.2.1) := by
  show (if _ then _ else if _ then _ else _) = _
  rw [if_neg h1, if_neg h2]
theorem RUN_s {tp : List Int} {s : PS} (hp : s.2.2.2.2.2 ≤ tp.length) (h7 : s.1 ≤ 7) (h1 : ¬ (kst tp s.2.2.2.2.2 = 0 ∧ s.1 = 4)) (h2 : fl tp s = 0) : RUN tp s = RUN tp (nxs tp s) := by
  have hk := fl_k h7 h2
  obtain ⟨g1, g2, g3, g4, g5⟩ := kq_gt hp
  have e := nxs_p tp s
  show (if _ then _ else if _ then _ else _) = _
  rw [if_neg h1, if_pos h2]
  exact run_st _ _ _ (by rw [e]; exact g3) (fun _ => Or.inr trivial) nxs_7 (by rw [e]; have := g5 hk; omega) (by omega)
theorem kv_num {tp : List Int} {p : Nat} (hp : p ≤ tp.length) (h : kst tp p = 2) : 0 ≤ kv tp p ∧ kv tp p ≤ 1000 := by
  unfold kv
  rw [if_neg (by omega), if_pos h]
  have := sk_le (P := wsB) hp
  have h2 : kb tp p ≤ tp.length := this.2
  exact nv_rg (tp.length - kb tp p) (kb tp p) 0 (by omega) (by omega)
theorem edg_rg {s : PS} {w : Int} (hv : vG s.2.2.2.2.1) (h0 : 0 ≤ s.2.2.2.1) (h1 : s.2.2.2.1 < ((s.2.2.2.2.1.1 * s.2.2.2.2.1.2.1 : Nat) : Int)) : -1 ≤ edg s w ∧ edg s w < gn s.2.2.2.2.1.1 s.2.2.2.2.1.2.1 := by
  have hle := hv.1.le
  have hRC : s.2.2.2.2.1.1 * s.2.2.2.2.1.2.1 ≤ 4 * 4 := Nat.mul_le_mul hle.1 hle.2
  unfold edg
  refine geb_rng _ hle.1 _ hle.2 _ ?_
  split <;> omega
theorem PV_s {tp : List Int} {s : PS} (h : PV tp s) (hf : fl tp s = 0) : PV tp (nxs tp s) := by
  obtain ⟨h1, h2, h3, h4, h5, h6, h7⟩ := h
  have hq := (kq_gt h2).2.2.1
  obtain ⟨d, r, kd, ce, G, p⟩ := s
  dsimp only at h1 h2 h3 h4 h5 h6 h7 hq
  have hd : d = 0 ∨ d = 1 ∨ d = 2 ∨ d = 3 ∨ d = 4 ∨ d = 5 ∨ d = 6 ∨ d = 7 := by omega
  have no : ∀ {P : Prop} {x : Int}, x ≠ 0 → ift P 0 x = 0 → P := fun {P x} hx e => Classical.byContradiction (fun w => hx (by rw [ift_f w] at e; exact e))
  have no2 : ∀ {P : Prop} {x : Int}, ift P x 1 = 0 → P ∧ x = 0 := fun {P x} e => by
    by_cases w : P
    · rw [ift_t w] at e; exact ⟨w, e⟩
    · rw [ift_f w] at e; exact absurd e (by decide)
  rcases hd with rfl | rfl | rfl | rfl | rfl | rfl | rfl | rfl
  · exact ⟨(by decide : 1 ≤ 7), hq, fun q => (by first | exact xE q rfl | exact xL q rfl | exact absurd q (by decide)), h4, fun q => (by first | exact xE q rfl | exact xL q rfl | exact absurd q (by decide)), fun q => (by first | exact xE q rfl | exact xL q rfl | exact absurd q (by decide)), fun q => (by first | exact xE q rfl | exact xL q rfl | exact absurd q (by decide))⟩
  · obtain ⟨e1, e2⟩ := no2 hf
    have e3 := no (by decide) e2
    exact ⟨(by decide : 2 ≤ 7), hq, fun _ => e3, h4, fun q => (by first | exact xE q rfl | exact xL q rfl | exact absurd q (by decide)), fun q => (by first | exact xE q rfl | exact xL q rfl | exact absurd q (by decide)), fun q => (by first | exact xE q rfl | exact xL q rfl | exact absurd q (by decide))⟩
  · obtain ⟨e1, e2⟩ := no2 hf
    have e3 : 1 ≤ kv tp p ∧ kv tp p ≤ 4 := no (by decide) e2
    have e4 := h3 rfl
    refine ⟨(by decide : 3 ≤ 7), hq, fun q => (by first | exact xE q rfl | exact xL q rfl | exact absurd q (by decide)), ⟨⟨?_, fun e _ => ⟨Int.le_refl 0, (by decide : (0 : Int) ≤ 3)⟩⟩, fun e _ => rfl⟩, fun _ => ?_, fun q => (by first | exact xE q rfl | exact xL q rfl | exact absurd q (by decide)), fun q => (by first | exact xE q rfl | exact xL q rfl | exact absurd q (by decide))⟩
    · show gok r.toNat (kv tp p).toNat
      unfold gok
      omega
    · show 0 < r.toNat
      omega
  · exact ⟨(by decide : 4 ≤ 7), hq, fun q => (by first | exact xE q rfl | exact xL q rfl | exact absurd q (by decide)), h4, fun _ => h5 (by decide), fun q => (by first | exact xE q rfl | exact xL q rfl | exact absurd q (by decide)), fun q => (by first | exact xE q rfl | exact xL q rfl | exact absurd q (by decide))⟩
  · have e3 := no (by decide) hf
    exact ⟨(by decide : 5 ≤ 7), hq, fun q => (by first | exact xE q rfl | exact xL q rfl | exact absurd q (by decide)), h4, fun _ => h5 (by decide), fun _ => e3.2, fun q => (by first | exact xE q rfl | exact xL q rfl | exact absurd q (by decide))⟩
  · obtain ⟨e1, e2⟩ := no2 hf
    have e3 := no (by decide) e2
    have e4 := kv_num h2 e1
    exact ⟨(by decide : 6 ≤ 7), hq, fun q => (by first | exact xE q rfl | exact xL q rfl | exact absurd q (by decide)), h4, fun _ => h5 (by decide), fun _ => h6 (by decide), fun _ => ⟨e4.1, e3⟩⟩
  · obtain ⟨e1, e2⟩ := no2 hf
    have hr := edg_rg (s := (6, r, kd, ce, G, p)) (w := kv tp p) h4.1 (h7 rfl).1 (h7 rfl).2
    have hk := h6 (by decide)
    by_cases c : edg (6, r, kd, ce, G, p) (kv tp p) = -1
    · rw [if_pos c] at e2; exact absurd e2 (by decide)
    · have hlt : (edg (6, r, kd, ce, G, p) (kv tp p)).toNat < gn G.1 G.2.1 := by
        have := hr.2
        dsimp only at this
        omega
      refine ⟨(by decide : 7 ≤ 7), hq, fun q => (by first | exact xE q rfl | exact xL q rfl | exact absurd q (by decide)), ⟨vG_up h4.1 _ (show 0 ≤ kd ∧ kd ≤ 3 by omega), nG_up h4.2 hlt⟩, fun _ => h5 (by decide), fun _ => hk, fun q => (by first | exact xE q rfl | exact xL q rfl | exact absurd q (by decide))⟩
  · have e0 : nxs tp (7, r, kd, ce, G, p) = (if kv tp p = 59 then 4 else 5, r, kd, ce, G, kq tp p) := rfl
    rw [e0]
    refine ⟨?_, hq, fun q => ?_, h4, fun _ => h5 (by decide), fun _ => h6 (by decide), fun q => ?_⟩
    · show (if kv tp p = 59 then 4 else 5) ≤ 7
      split <;> decide
    · have q : (if kv tp p = 59 then 4 else 5) = 2 := q
      split at q <;> exact absurd q (by decide)
    · have q : (if kv tp p = 59 then 4 else 5) = 6 := q
      split at q <;> exact absurd q (by decide)
/-- the class's fields -/
def REL (F : Nat → Int) (s : PS) : Prop := F 8 = (s.1 : Int) ∧ (s.1 = 2 → F 9 = s.2.1) ∧ (5 ≤ s.1 → F 10 = s.2.2.1) ∧ (s.1 = 6 → F 11 = s.2.2.2.1)
section RD
variable {E : am_E} {k : Nat} {m : MM} {γ : GM} {t : am_H} {tp : List Int}
theorem S_sign {Q : Int → MM → GM → am_H → Prop} {x : Int} (hx : rJ x) (q1 : m 99 6 = 3 ∧ m 99 7 = x → Q 1 m γ t) (q0 : ¬ (m 99 6 = 3 ∧ m 99 7 = x) → Q 0 m γ t) : TI E k 90 [.ref 99, .int (iI x)] m γ t Q :=
  vc_X6_isSign hx ⟨fun c => ⟨fun c2 => q1 ⟨c, c2⟩, fun c2 => q0 (fun z => c2 z.2)⟩, fun c => q0 (fun z => c z.1)⟩
theorem S_take {Q : Int → MM → GM → am_H → Prop} {g : Nat} {s : PS} (hg : isg g) (h : PV tp s) (hγ : γ g = s.2.2.2.2.1) (hR : REL (m 99) s) (h6 : m 99 6 = (kst tp s.2.2.2.2.2 : Int)) (h7 : kst tp s.2.2.2.2.2 ≠ 0 → m 99 7 = kv tp s.2.2.2.2.2) (hQ : ∀ (F : Nat → Int) (G' : GV), (∀ j, j ≤ 7 → F j = m 99 j) → (fl tp s = 0 → G' = (nxs tp s).2.2.2.2.1 ∧ REL F (nxs tp s)) → Q (fl tp s) (up m 99 F) (up γ g G') t) : TI E (k + 3) 89 [.ref 99, .ref g] m γ t Q := fun hh S => by
  have r7 := S.rg 99 7 (nl rfl)
  revert hh
  show TI E (k + 3) 89 [.ref 99, .ref g] m γ t Q
  obtain ⟨d, r, kd, ce, G, p⟩ := s
  obtain ⟨v1, v2, v3, v4, v5, v6, v7⟩ := h
  obtain ⟨e8, e9, e10, e11⟩ := hR
  dsimp only at v1 v2 v3 v4 v5 v6 v7 e8 e9 e10 e11 h6 h7 hγ
  have hid : up γ g G = γ := by rw [← hγ]; exact up_id
  have hle := v4.1.1.le
  have hRC : G.1 * G.2.1 ≤ 4 * 4 := Nat.mul_le_mul hle.1 hle.2
  have hd : d = 0 ∨ d = 1 ∨ d = 2 ∨ d = 3 ∨ d = 4 ∨ d = 5 ∨ d = 6 ∨ d = 7 := by omega
  -- after expect
  have ex : ∀ (b th : Int) (m0 : MM) (F0 : Nat → Int), m0 = up m 99 F0 → (∀ j, j ≤ 7 → F0 j = m 99 j) → rJ b → rJ th → (b = 0 → fl tp (d, r, kd, ce, G, p) = 1) → (b ≠ 0 → fl tp (d, r, kd, ce, G, p) = 0 ∧ (nxs tp (d, r, kd, ce, G, p)).2.2.2.2.1 = G ∧ REL (up F0 8 th) (nxs tp (d, r, kd, ce, G, p))) → TI E (k + 2) 91 [.ref 99, .int (iI b), .int (iI th)] m0 γ t (fun v m1 γ1 t1 => Q v m1 γ1 t1) := by
    intro b th m0 F0 hm0 hF0 hb hth f1 f0
    subst hm0
    refine vc_X6_expect hb hth ?_
    show _ ∧ _
    rw [up_self, up_up]
    have fj : ∀ j, j ≤ 7 → up F0 8 th j = m 99 j := fun j hj => by rw [up_ne (by omega)]; exact hF0 j hj
    refine ⟨fun c => ?_, fun c => ?_⟩
    · have := hQ (up F0 8 th) G fj (fun q => absurd q (by rw [f1 c]; decide))
      rw [f1 c, hid] at this
      exact this
    · obtain ⟨g1, g2, g3⟩ := f0 c
      have := hQ (up F0 8 th) G fj (fun _ => ⟨g2.symm, g3⟩)
      rw [g1, hid] at this
      exact this
  -- after takeNumber
  have tn : ∀ (lo hi th : Int) (m0 : MM) (F0 : Nat → Int) (G0 : GV), m0 = up m 99 F0 → (∀ j, j ≤ 7 → F0 j = m 99 j) → rJ lo → rJ hi → rJ th → (kst tp p ≠ 2 → fl tp (d, r, kd, ce, G, p) = 1) → (kst tp p = 2 → ¬ (lo ≤ kv tp p ∧ kv tp p ≤ hi) → fl tp (d, r, kd, ce, G, p) = 2) → (kst tp p = 2 → lo ≤ kv tp p ∧ kv tp p ≤ hi → fl tp (d, r, kd, ce, G, p) = 0 ∧ G0 = (nxs tp (d, r, kd, ce, G, p)).2.2.2.2.1 ∧ REL (up F0 8 th) (nxs tp (d, r, kd, ce, G, p))) → TI E (k + 2) 92 [.ref 99, .int (iI lo), .int (iI hi), .int (iI th)] m0 (up γ g G0) t (fun v m1 γ1 t1 => Q v m1 γ1 t1) := by
    intro lo hi th m0 F0 G0 hm0 hF0 hlo hhi hth f1 f2 f0
    subst hm0
    have fj : ∀ j, j ≤ 7 → up F0 8 th j = m 99 j := fun j hj => by rw [up_ne (by omega)]; exact hF0 j hj
    refine vc_X6_takeNumber hlo hhi hth ?_
    show _ ∧ _
    rw [up_self, up_up, hF0 6 (by decide), hF0 7 (by decide), h6]
    refine ⟨fun c => ?_, fun c => ?_⟩
    · have hk : kst tp p = 2 := by omega
      rw [h7 (by omega)]
      have out : ¬ (lo ≤ kv tp p ∧ kv tp p ≤ hi) → Q 2 (up m 99 (up F0 8 th)) (up γ g G0) t := fun hno => by
        have := hQ (up F0 8 th) G0 fj (fun q => absurd q (by rw [f2 hk hno]; decide))
        rw [f2 hk hno] at this
        exact this
      refine ⟨fun c1 => out (by omega), fun c1 => ⟨fun c2 => ?_, fun c2 => out (by omega)⟩⟩
      obtain ⟨g1, g2, g3⟩ := f0 hk ⟨by omega, c2⟩
      have := hQ (up F0 8 th) G0 fj (fun _ => ⟨g2, g3⟩)
      rw [g1] at this
      exact this
    · have hk : kst tp p ≠ 2 := fun q => c (by omega)
      have := hQ F0 G0 hF0 (fun q => absurd q (by rw [f1 hk]; decide))
      rw [f1 hk] at this
      exact this
  have mm : m = up m 99 (m 99) := up_id.symm
  refine vc_X6_take hg ?_
  show _ ∧ _
  rw [e8]
  rcases hd with rfl | rfl | rfl | rfl | rfl | rfl | rfl | rfl
  · refine ⟨fun _ => ?_, fun c => absurd rfl c⟩
    rw [h6]
    have efl : fl tp (0, r, kd, ce, G, p) = ift (kst tp p = 1 ∧ kv tp p = 0) 0 1 := rfl
    refine ⟨fun c => ?_, fun c => ex 0 1 m (m 99) mm (fun _ _ => rfl) (by omega) (by omega) (fun _ => by rw [efl]; exact ift_f (fun z => c (by omega))) (fun q => absurd rfl q)⟩
    rw [h7 (by omega)]
    refine ⟨fun c2 => ex 1 1 m (m 99) mm (fun _ _ => rfl) (by omega) (by omega) (fun q => (by first | exact xE q rfl | exact xL q rfl | exact absurd q (by decide))) (fun _ => ⟨by rw [efl]; exact ift_t ⟨by omega, c2⟩, rfl, ?_⟩), fun c2 => ex 0 1 m (m 99) mm (fun _ _ => rfl) (by omega) (by omega) (fun _ => by rw [efl]; exact ift_f (fun z => c2 z.2)) (fun q => absurd rfl q)⟩
    exact ⟨by rw [up_self]; rfl, fun q => (by first | exact xE q rfl | exact xL q rfl | exact absurd q (by decide)), fun q => (by first | exact xE q rfl | exact xL q rfl | exact absurd q (by decide)), fun q => (by first | exact xE q rfl | exact xL q rfl | exact absurd q (by decide))⟩
  · refine ⟨fun c => absurd c (by decide), fun _ => ⟨fun _ => ?_, fun c => absurd rfl c⟩⟩
    have efl : fl tp (1, r, kd, ce, G, p) = ift (kst tp p = 2) (ift (1 ≤ kv tp p ∧ kv tp p ≤ 4) 0 2) 1 := rfl
    have := tn 1 4 2 (up m 99 (up (m 99) 9 (m 99 7))) (up (m 99) 9 (m 99 7)) G rfl (fun j hj => up_ne (by omega)) (by omega) (by omega) (by omega) (fun q => by rw [efl]; exact ift_f q) (fun q1 q2 => by rw [efl, ift_t q1]; exact ift_f q2) (fun q1 q2 => ⟨by rw [efl, ift_t q1]; exact ift_t q2, rfl, ?_⟩)
    · rw [hid] at this
      exact this
    · refine ⟨by rw [up_self]; rfl, fun _ => ?_, fun q => (by first | exact xE q rfl | exact xL q rfl | exact absurd q (by decide)), fun q => (by first | exact xE q rfl | exact xL q rfl | exact absurd q (by decide))⟩
      rw [up_ne (by decide), up_self]
      exact h7 (by omega)
  · refine ⟨fun c => absurd c (by decide), fun _ => ⟨fun c => absurd c (by decide), fun _ => ⟨fun _ => ?_, fun c => absurd rfl c⟩⟩⟩
    have efl : fl tp (2, r, kd, ce, G, p) = ift (kst tp p = 2) (ift (1 ≤ kv tp p ∧ kv tp p ≤ 4) 0 2) 1 := rfl
    have r4 := v3 rfl
    rw [e9 rfl]
    refine S_layG hg (by omega) r7 ?_
    refine tn 1 4 3 m (m 99) _ mm (fun _ _ => rfl) (by omega) (by omega) (by omega) (fun q => by rw [efl]; exact ift_f q) (fun q1 q2 => by rw [efl, ift_t q1]; exact ift_f q2) (fun q1 q2 => ⟨by rw [efl, ift_t q1]; exact ift_t q2, ?_, ?_⟩)
    · show (layR r (m 99 7), layC r (m 99 7), fun _ => 0) = (r.toNat, (kv tp p).toNat, fun _ => 0)
      unfold layR layC
      rw [h7 (by omega), if_pos (by omega), if_pos (by omega)]
    · exact ⟨by rw [up_self]; rfl, fun q => (by first | exact xE q rfl | exact xL q rfl | exact absurd q (by decide)), fun q => (by first | exact xE q rfl | exact xL q rfl | exact absurd q (by decide)), fun q => (by first | exact xE q rfl | exact xL q rfl | exact absurd q (by decide))⟩
  · refine ⟨fun c => absurd c (by decide), fun _ => ⟨fun c => absurd c (by decide), fun _ => ⟨fun c => absurd c (by decide), fun _ => ⟨fun _ => ?_, fun c => absurd rfl c⟩⟩⟩⟩
    have efl : fl tp (3, r, kd, ce, G, p) = ift (kst tp p = 3 ∧ kv tp p = 59) 0 1 := rfl
    refine S_sign (by omega) (fun c => ex 1 4 m (m 99) mm (fun _ _ => rfl) (by omega) (by omega) (fun q => (by first | exact xE q rfl | exact xL q rfl | exact absurd q (by decide))) (fun _ => ⟨?_, rfl, ?_⟩)) (fun c => ex 0 4 m (m 99) mm (fun _ _ => rfl) (by omega) (by omega) (fun _ => ?_) (fun q => absurd rfl q))
    · rw [efl]
      exact ift_t ⟨by omega, by rw [← h7 (by omega)]; exact c.2⟩
    · exact ⟨by rw [up_self]; rfl, fun q => (by first | exact xE q rfl | exact xL q rfl | exact absurd q (by decide)), fun q => (by first | exact xE q rfl | exact xL q rfl | exact absurd q (by decide)), fun q => (by first | exact xE q rfl | exact xL q rfl | exact absurd q (by decide))⟩
    · rw [efl]
      exact ift_f (fun z => c ⟨by omega, by rw [h7 (by omega)]; exact z.2⟩)
  · refine ⟨fun c => absurd c (by decide), fun _ => ⟨fun c => absurd c (by decide), fun _ => ⟨fun c => absurd c (by decide), fun _ => ⟨fun c => absurd c (by decide), fun _ => ⟨fun _ => ?_, fun c => absurd rfl c⟩⟩⟩⟩⟩
    have efl : fl tp (4, r, kd, ce, G, p) = ift (kst tp p = 1 ∧ 1 ≤ kv tp p ∧ kv tp p ≤ 3) 0 1 := rfl
    have no : ¬ (kst tp p = 1 ∧ 1 ≤ kv tp p ∧ kv tp p ≤ 3) → TI E (k + 2) 91 [.ref 99, .int (iI 0), .int (iI 5)] (up m 99 (up (m 99) 10 (m 99 7))) γ t (fun v m1 γ1 t1 => Q v m1 γ1 t1) := fun hn => ex 0 5 _ (up (m 99) 10 (m 99 7)) rfl (fun j hj => up_ne (by omega)) (by omega) (by omega) (fun _ => by rw [efl]; exact ift_f hn) (fun q => absurd rfl q)
    rw [h6]
    refine ⟨fun c => ?_, fun c => no (fun z => c (by omega))⟩
    have hv7 := h7 (by omega)
    refine ⟨fun c2 => no (fun z => by omega), fun c2 => ⟨fun c3 => ?_, fun c3 => no (fun z => by omega)⟩⟩
    refine ex 1 5 _ (up (m 99) 10 (m 99 7)) rfl (fun j hj => up_ne (by omega)) (by omega) (by omega) (fun q => (by first | exact xE q rfl | exact xL q rfl | exact absurd q (by decide))) (fun _ => ⟨by rw [efl]; exact ift_t ⟨by omega, by omega, by omega⟩, rfl, ?_⟩)
    refine ⟨by rw [up_self]; rfl, fun q => (by first | exact xE q rfl | exact xL q rfl | exact absurd q (by decide)), fun _ => ?_, fun q => (by first | exact xE q rfl | exact xL q rfl | exact absurd q (by decide))⟩
    rw [up_ne (by decide), up_self]
    exact hv7
  · refine ⟨fun c => absurd c (by decide), fun _ => ⟨fun c => absurd c (by decide), fun _ => ⟨fun c => absurd c (by decide), fun _ => ⟨fun c => absurd c (by decide), fun _ => ⟨fun c => absurd c (by decide), fun _ => ⟨fun _ => ?_, fun c => absurd rfl c⟩⟩⟩⟩⟩⟩
    have efl : fl tp (5, r, kd, ce, G, p) = ift (kst tp p = 2) (ift (kv tp p < ((G.1 * G.2.1 : Nat) : Int)) 0 2) 1 := rfl
    refine S_gcells hg (fun _ => ?_)
    rw [hγ]
    have := tn 0 (((G.1 * G.2.1 : Nat) : Int) - 1) 6 (up m 99 (up (m 99) 11 (m 99 7))) (up (m 99) 11 (m 99 7)) G rfl (fun j hj => up_ne (by omega)) (by omega) (by omega) (by omega) (fun q => by rw [efl]; exact ift_f q) (fun q1 q2 => by rw [efl, ift_t q1]; exact ift_f (fun z => q2 ⟨(kv_num v2 q1).1, by omega⟩)) (fun q1 q2 => ⟨by rw [efl, ift_t q1]; exact ift_t (by omega), rfl, ?_⟩)
    · rw [hid] at this
      exact this
    · refine ⟨by rw [up_self]; rfl, fun q => (by first | exact xE q rfl | exact xL q rfl | exact absurd q (by decide)), fun _ => ?_, fun _ => ?_⟩
      · rw [up_ne (by decide), up_ne (by decide)]
        exact e10 (by decide)
      · rw [up_ne (by decide), up_self]
        exact h7 (by omega)
  · refine ⟨fun c => absurd c (by decide), fun _ => ⟨fun c => absurd c (by decide), fun _ => ⟨fun c => absurd c (by decide), fun _ => ⟨fun c => absurd c (by decide), fun _ => ⟨fun c => absurd c (by decide), fun _ => ⟨fun c => absurd c (by decide), fun _ => ⟨fun _ => ?_, fun c => absurd rfl c⟩⟩⟩⟩⟩⟩⟩
    have efl : fl tp (6, r, kd, ce, G, p) = ift (kst tp p = 1 ∧ (kv tp p = 4 ∨ kv tp p = 5)) (if edg (6, r, kd, ce, G, p) (kv tp p) = -1 then 3 else if G.2.2 (edg (6, r, kd, ce, G, p) (kv tp p)).toNat = 0 then 0 else 4) 1 := rfl
    have hkd := v6 (by decide)
    obtain ⟨c60, c61⟩ := v7 rfl
    have he11 := e11 rfl
    have he10 := e10 (by decide)
    have same : ∀ z : Int, fl tp (6, r, kd, ce, G, p) = z → z ≠ 0 → Q z m γ t := fun z hz hz0 => by
      have := hQ (m 99) G (fun _ _ => rfl) (fun q => absurd q (by rw [hz]; exact hz0))
      rw [hz, hid, up_id] at this
      exact this
    -- the edge
    have side : ∀ (b : Nat) (y : Int), y = (b : Int) → b ≤ 1 → kst tp p = 1 → (kv tp p = 4 ∨ kv tp p = 5) → (if kv tp p = 4 then 0 else 1) = b → TI E (k + 1) 37 [.ref g, .int (iI ce), .int (iI y)] m γ t (fun v7 m7 γ7 t7 => ((v7 = -1) → Q 3 m7 γ7 t7) ∧ (¬ (v7 = -1) → TI E (k + 1) 33 [.ref g, .int (iI v7)] m7 γ7 t7 (fun v9 m9 γ9 t9 => ((v9 = 0) → TV E (k + 1) 42 [.ref g, .int (iI v7), .int (iI (m9 99 10))] m9 γ9 t9 (fun m12 γ12 t12 => Q 0 (up m12 99 (up (m12 99) 8 7)) γ12 t12)) ∧ (¬ (v9 = 0) → Q 4 m9 γ9 t9)))) := by
      intro b y hy hb hk hkv hsel
      have hed : edg (6, r, kd, ce, G, p) (kv tp p) = geb G.1 G.2.1 (2 * ce.toNat + b) := by
        show geb G.1 G.2.1 (2 * ce.toNat + (if kv tp p = 4 then 0 else 1)) = _
        rw [hsel]
      rw [hed, ift_t ⟨hk, hkv⟩] at efl
      refine S_edgeAt ce.toNat b hg (by omega) hy (by rw [hγ]; omega) hb (fun hge => ?_)
      rw [hγ] at hge ⊢
      refine ⟨fun c => same 3 (by rw [efl, if_pos c]) (by decide), fun c => S_kindOf (geb G.1 G.2.1 (2 * ce.toNat + b)).toNat hg (by omega) (by rw [hγ]; omega) (fun _ => ?_)⟩
      rw [hγ]
      rw [if_neg c] at efl
      refine ⟨fun c2 => ?_, fun c2 => same 4 (by rw [efl, if_neg c2]) (by decide)⟩
      rw [if_pos c2] at efl
      rw [he10]
      refine S_change (geb G.1 G.2.1 (2 * ce.toNat + b)).toNat hg (by omega) (by rw [hγ]; omega) (by omega) ?_
      rw [hγ]
      have := hQ (up (m 99) 8 7) (G.1, G.2.1, up G.2.2 (geb G.1 G.2.1 (2 * ce.toNat + b)).toNat kd) (fun j hj => up_ne (by omega)) (fun _ => ⟨?_, ?_⟩)
      · rw [efl] at this
        exact this
      · show _ = (G.1, G.2.1, up G.2.2 (edg (6, r, kd, ce, G, p) (kv tp p)).toNat kd)
        rw [hed]
      · refine ⟨by rw [up_self]; rfl, fun q => (by first | exact xE q rfl | exact xL q rfl | exact absurd q (by decide)), fun _ => ?_, fun q => (by first | exact xE q rfl | exact xL q rfl | exact absurd q (by decide))⟩
        rw [up_ne (by decide)]
        exact he10
    refine vc_X6_takeSide hg ?_
    show _ ∧ _
    rw [h6, he11]
    refine ⟨fun c => ?_, fun c => same 1 (by rw [efl]; exact ift_f (fun z => c (by omega))) (by decide)⟩
    have hv7 := h7 (by omega)
    rw [hv7]
    refine ⟨fun c2 => ?_, fun c2 => ⟨fun c3 => ?_, fun c3 => same 1 (by rw [efl]; exact ift_f (fun z => by omega)) (by decide)⟩⟩
    · exact side 0 0 rfl (by decide) (by omega) (Or.inl c2) (if_pos c2)
    · exact side 1 1 rfl (by decide) (by omega) (Or.inr c3) (if_neg c2)
  · refine ⟨fun c => absurd c (by decide), fun _ => ⟨fun c => absurd c (by decide), fun _ => ⟨fun c => absurd c (by decide), fun _ => ⟨fun c => absurd c (by decide), fun _ => ⟨fun c => absurd c (by decide), fun _ => ⟨fun c => absurd c (by decide), fun _ => ⟨fun c => absurd c (by decide), fun _ => ?_⟩⟩⟩⟩⟩⟩⟩
    have efl : fl tp (7, r, kd, ce, G, p) = ift (kst tp p = 3 ∧ (kv tp p = 59 ∨ kv tp p = 44)) 0 1 := rfl
    have enx : nxs tp (7, r, kd, ce, G, p) = (if kv tp p = 59 then 4 else 5, r, kd, ce, G, kq tp p) := rfl
    refine S_sign (by omega) (fun c => b1 ?_) (fun c => b0 ?_)
    · have hk : kst tp p = 3 := by omega
      have hv7 := h7 (by omega)
      refine S_sign (by omega) (fun _ => b1 ?_) (fun c2 => absurd c c2)
      refine ex 1 4 m (m 99) mm (fun _ _ => rfl) (by omega) (by omega) (fun q => (by first | exact xE q rfl | exact xL q rfl | exact absurd q (by decide))) (fun _ => ⟨by rw [efl]; exact ift_t ⟨hk, Or.inl (by omega)⟩, rfl, ?_⟩)
      rw [enx, if_pos (by omega)]
      exact ⟨by rw [up_self]; rfl, fun q => (by first | exact xE q rfl | exact xL q rfl | exact absurd q (by decide)), fun q => (by first | exact xE q rfl | exact xL q rfl | exact absurd q (by decide)), fun q => (by first | exact xE q rfl | exact xL q rfl | exact absurd q (by decide))⟩
    · refine S_sign (by omega) (fun c2 => b1 ?_) (fun c2 => b0 ?_)
      · have hk : kst tp p = 3 := by omega
        have hv7 := h7 (by omega)
        refine S_sign (by omega) (fun c3 => absurd c3 c) (fun _ => b0 ?_)
        refine ex 1 5 m (m 99) mm (fun _ _ => rfl) (by omega) (by omega) (fun q => (by first | exact xE q rfl | exact xL q rfl | exact absurd q (by decide))) (fun _ => ⟨by rw [efl]; exact ift_t ⟨hk, Or.inr (by omega)⟩, rfl, ?_⟩)
        rw [enx, if_neg (by omega)]
        refine ⟨by rw [up_self]; rfl, fun q => (by first | exact xE q rfl | exact xL q rfl | exact absurd q (by decide)), fun _ => ?_, fun q => (by first | exact xE q rfl | exact xL q rfl | exact absurd q (by decide))⟩
        rw [up_ne (by decide)]
        exact e10 (by decide)
      · refine S_sign (by omega) (fun c3 => absurd c3 c) (fun _ => b0 ?_)
        refine ex 0 5 m (m 99) mm (fun _ _ => rfl) (by omega) (by omega) (fun _ => ?_) (fun q => absurd rfl q)
        rw [efl]
        refine ift_f (fun z => ?_)
        have hv7 := h7 (by omega)
        rcases z.2 with w | w
        · exact c ⟨by omega, by omega⟩
        · exact c2 ⟨by omega, by omega⟩
/-- the start of a text -/
def ps0 : PS := (0, 0, 0, 0, g00, 0)
theorem PV_0 (tp : List Int) : PV tp ps0 := ⟨by decide, Nat.zero_le _, fun q => (by first | exact xE q rfl | exact xL q rfl | exact absurd q (by decide)), ⟨⟨Or.inl ⟨rfl, rfl⟩, fun e he => ⟨Int.le_refl 0, (by decide : (0 : Int) ≤ 3)⟩⟩, fun e _ => rfl⟩, fun q => (by first | exact xE q rfl | exact xL q rfl | exact absurd q (by decide)), fun q => (by first | exact xE q rfl | exact xL q rfl | exact absurd q (by decide)), fun q => (by first | exact xE q rfl | exact xL q rfl | exact absurd q (by decide))⟩
theorem S_readInto {Q : Int → MM → GM → am_H → Prop} {g : Nat} (hE : EV E) (hg : isg g) (h : TPl m tp) (hQ : ∀ (F : Nat → Int) (G' : GV), F 1 = 0 → F 2 = (RUN tp ps0).1.1 → F 3 = (RUN tp ps0).1.2 → ((RUN tp ps0).1.1 = 0 → G' = (RUN tp ps0).2 ∧ vG G' ∧ nG G' ∧ 0 < G'.1) → Q (if (RUN tp ps0).1.1 = 0 then 1 else 0) (up m 99 F) (up γ g G') t) : TI E (k + 8) 80 [.ref 99, .ref g] m γ t Q := by
  have h4 := h.2.1
  refine vc_X6_readInto hg (S_clear hg ?_)
  show hd_X6_readInto_26 _ _ _ _ _ _ _ _
  rw [up_up, up_up, up_up]
  have loop : ∀ (e i : Nat), i + e = 401 → ∀ (F : Nat → Int) (s : PS), PV tp s → REL F s → F 1 = m 99 1 → F 2 = 0 → F 3 = -1 → F 5 = (s.2.2.2.2.2 : Int) → i ≤ s.2.2.2.2.2 → RUN tp s = RUN tp ps0 → hd_X6_readInto_26 E (k + 7) g (i : Int) (up m 99 F) (up γ g s.2.2.2.2.1) t Q := by
    intro e
    induction e with
    | zero =>
      intro i hi F s hP hR f1 f2 f3 f5 hip hru
      have := hP.2.1
      omega
    | succ e ih =>
      intro i hi F s hP hR f1 f2 f3 f5 hip hru
      have hp := hP.2.1
      obtain ⟨g1, g2, g3, g4, g5⟩ := kq_gt hp
      refine vc_X6_readInto_26 hg (by omega) ⟨fun _ => ?_, fun c => absurd (by omega) c⟩
      refine S_scan s.2.2.2.2.2 hE (h.up f1) hp (by rw [up_self]; exact f5) (fun F2 e1 e4 e5 e6 e7 e7' => ?_)
      rw [up_self] at e1
      rw [up_up, up_self]
      have hR2 : REL F2 s := ⟨by rw [e1 8 (by decide)]; exact hR.1, fun q => by rw [e1 9 (by decide)]; exact hR.2.1 q, fun q => by rw [e1 10 (by decide)]; exact hR.2.2.1 q, fun q => by rw [e1 11 (by decide)]; exact hR.2.2.2 q⟩
      have e8 := hR2.1
      -- a token taken
      have tke : ¬ (kst tp s.2.2.2.2.2 = 0 ∧ s.1 = 4) → TI E (k + 7) 89 [.ref 99, .ref g] (up m 99 F2) (up γ g s.2.2.2.2.1) t (fun v m17 γ17 t17 => ((v = 0) → hd_X6_readInto_26 E (k + 7) g ((i : Int) + 1) (up m17 99 (up (m17 99) 2 v)) γ17 t17 Q) ∧ (¬ (v = 0) → Q 0 (up (up (up m17 99 (up (m17 99) 2 v)) 99 (up (up (m17 99) 2 v) 3 (m17 99 4))) 99 (up (up (up (m17 99) 2 v) 3 (m17 99 4)) 1 0)) γ17 t17)) := fun hne => by
        refine S_take (tp := tp) (s := s) hg hP up_self (by rw [up_self]; exact hR2) (by rw [up_self]; exact e6) (by rw [up_self]; exact e7) (fun F3 G' j3 k3 => ?_)
        rw [up_self] at j3
        rw [up_up, up_up, up_self, up_up, up_up, up_up]
        refine ⟨fun c => ?_, fun c => ?_⟩
        · obtain ⟨k4, k5⟩ := k3 c
          have hk := fl_k hP.1 c
          rw [c, k4]
          have := ih (i + 1) (by omega) (up F3 2 0) (nxs tp s) (PV_s hP c) ⟨by rw [up_ne (by decide)]; exact k5.1, fun q => by rw [up_ne (by decide)]; exact k5.2.1 q, fun q => by rw [up_ne (by decide)]; exact k5.2.2.1 q, fun q => by rw [up_ne (by decide)]; exact k5.2.2.2 q⟩ (by rw [up_ne (by decide), j3 1 (by decide), e1 1 (by decide)]; exact f1) (by rw [up_self]) (by rw [up_ne (by decide), j3 3 (by decide), e1 3 (by decide)]; exact f3) (by rw [up_ne (by decide), j3 5 (by decide), nxs_p]; exact e5) (by rw [nxs_p]; have := g5 hk; omega) (by rw [← RUN_s hp hP.1 hne c]; exact hru)
          exact this
        · have hrf := RUN_f hne c
          rw [hru] at hrf
          have := hQ (up (up (up F3 2 (fl tp s)) 3 (F3 4)) 1 0) G' (by rw [up_self]) (by rw [up_ne (by decide), up_ne (by decide), up_self, hrf]) (by rw [up_ne (by decide), up_self, hrf, j3 4 (by decide)]; exact e4) (fun q => absurd q (by rw [hrf]; exact c))
          rw [if_neg (by rw [hrf]; exact c)] at this
          exact this
      rw [e6, e8]
      refine ⟨fun c => ⟨fun c2 => ?_, fun c2 => tke (fun z => c2 (by omega))⟩, fun c => tke (fun z => c (by omega))⟩
      have hre := RUN_e (tp := tp) (s := s) (by omega) (by omega)
      rw [hru] at hre
      have f22 : F2 2 = 0 := by rw [e1 2 (by decide)]; exact f2
      rw [f22, up_up]
      refine ⟨fun _ => ?_, fun z => absurd rfl z⟩
      have := hQ (up F2 1 0) s.2.2.2.2.1 (by rw [up_self]) (by rw [up_ne (by decide), hre]; exact f22) (by rw [up_ne (by decide), hre, e1 3 (by decide)]; exact f3) (fun _ => ⟨by rw [hre], hP.2.2.2.1.1, hP.2.2.2.1.2, hP.2.2.2.2.1 (by omega)⟩)
      rw [if_pos (by rw [hre])] at this
      exact this
  exact loop 401 0 (by omega) _ ps0 (PV_0 tp) ⟨by rw [up_ne (by decide), up_ne (by decide), up_self]; rfl, fun q => (by first | exact xE q rfl | exact xL q rfl | exact absurd q (by decide)), fun q => (by first | exact xE q rfl | exact xL q rfl | exact absurd q (by decide)), fun q => (by first | exact xE q rfl | exact xL q rfl | exact absurd q (by decide))⟩ (by rw [up_ne (by decide), up_ne (by decide), up_ne (by decide), up_ne (by decide)]) (by rw [up_ne (by decide), up_self]) (by rw [up_self]) (by rw [up_ne (by decide), up_ne (by decide), up_ne (by decide), up_self]; rfl) (Nat.zero_le _) rfl
end RD
