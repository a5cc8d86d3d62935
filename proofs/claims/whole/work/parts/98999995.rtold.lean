/-! ===== told: the reference ===== -/
def dst (i j : Nat) : Bool := decide (i = j) || !(decide ((tx i).length = (tx j).length) && decide ((tx i).getD 0 0 = (tx j).getD 0 0))
theorem dst_D : ∀ i, i < 6 → ∀ j, j < 6 → dst i j = true := by decide +kernel
theorem spW_u {tp : List Int} {b q i j : Nat} (hi : i < 6) (hj : j < 6) (h1 : spW tp b q i) (h2 : spW tp b q j) : i = j := by
  have h := dst_D i hi j hj
  unfold dst at h
  simp only [Bool.or_eq_true, decide_eq_true_eq, Bool.not_eq_true', Bool.and_eq_false_iff, decide_eq_false_iff_not] at h
  have pos := tx_D i (by omega)
  rw [← tx_len] at pos
  rcases h with h | h | h
  · exact h
  · exact absurd (h1.1.symm.trans h2.1) h
  · have a1 := h1.2 0 (by omega)
    have a2 := h2.2 0 (by have := h1.1; have := h2.1; omega)
    exact absurd (a1.symm.trans a2) h
theorem wn_iff {tp : List Int} {b q i : Nat} (hi : i < 6) : wn tp b q = (i : Int) ↔ spW tp b q i := by
  have key : ∀ j, j < 6 → spW tp b q j → wn tp b q = (j : Int) := by
    intro j hj h
    have no : ∀ x, x < 6 → x ≠ j → ¬ spW tp b q x := fun x hx hne w => hne (spW_u hx hj w h)
    unfold wn
    have : j = 0 ∨ j = 1 ∨ j = 2 ∨ j = 3 ∨ j = 4 ∨ j = 5 := by omega
    rcases this with rfl | rfl | rfl | rfl | rfl | rfl
    · rw [ift_t h]; rfl
    · rw [ift_f (no 0 (by decide) (by decide)), ift_t h]; rfl
    · rw [ift_f (no 0 (by decide) (by decide)), ift_f (no 1 (by decide) (by decide)), ift_t h]; rfl
    · rw [ift_f (no 0 (by decide) (by decide)), ift_f (no 1 (by decide) (by decide)), ift_f (no 2 (by decide) (by decide)), ift_t h]; rfl
    · rw [ift_f (no 0 (by decide) (by decide)), ift_f (no 1 (by decide) (by decide)), ift_f (no 2 (by decide) (by decide)), ift_f (no 3 (by decide) (by decide)), ift_t h]; rfl
    · rw [ift_f (no 0 (by decide) (by decide)), ift_f (no 1 (by decide) (by decide)), ift_f (no 2 (by decide) (by decide)), ift_f (no 3 (by decide) (by decide)), ift_f (no 4 (by decide) (by decide)), ift_t h]; rfl
  refine ⟨fun h => ?_, key i hi⟩
  apply Classical.byContradiction
  intro hno
  by_cases ex : ∃ j, j < 6 ∧ spW tp b q j
  · obtain ⟨j, hj, hw⟩ := ex
    have := key j hj hw
    have : i = j := by omega
    exact hno (this ▸ hw)
  · have no : ∀ j, j < 6 → ¬ spW tp b q j := fun j hj w => ex ⟨j, hj, w⟩
    unfold wn at h
    rw [ift_f (no 0 (by decide)), ift_f (no 1 (by decide)), ift_f (no 2 (by decide)), ift_f (no 3 (by decide)), ift_f (no 4 (by decide)), ift_f (no 5 (by decide))] at h
    omega
theorem kv_word {tp : List Int} {p i : Nat} (hk : kst tp p = 1) (hi : i < 6) : kv tp p = (i : Int) ↔ spW tp (kb tp p) (kq tp p) i := by
  unfold kv
  rw [if_pos hk]
  exact wn_iff hi
abbrev FT : List Nat := [33, 34, 35, 36, 37, 38, 39]
def OKs (R : (Int × Int) × GV) (tp : List Int) (m : MM) (s : PS) : Prop := RTk m tp s.2.2.2.2.2 ∧ m 158 33 = 0 ∧ m 158 34 = -1 ∧ RUN tp s = R ∧ PV tp s
def BD (R : (Int × Int) × GV) (m : MM) : Prop := m 158 39 = 1 ∧ m 158 33 = R.1.1 ∧ m 158 34 = R.1.2 ∧ R.1.1 ≠ 0
def GRD (m : MM) (G : GV) : Prop := RSh m G.1 G.2.1 ∧ ∀ e, e < 24 → m 162 e = G.2.2 e
section RO
variable {E : am_E} {k : Nat} {m : MM} {γ : GM} {t : am_H} {tp : List Int} {R : (Int × Int) × GV} {s : PS}
theorem OKs.flt (h : OKs R tp m s) {x : Int} {F : Nat → Int} (hne : ¬ (kst tp s.2.2.2.2.2 = 0 ∧ s.1 = 4)) (hx : id (fl tp s) = x) (hx0 : x ≠ 0) (f1 : F 33 = x) (f2 : F 34 = (kb tp s.2.2.2.2.2 : Int)) (f3 : F 39 = 1) : BD R (up m 158 F) := by
  have hx : fl tp s = x := hx
  have := RUN_f hne (by rw [hx]; exact hx0)
  rw [h.2.2.2.1] at this
  exact ⟨by rw [up_self]; exact f3, by rw [up_self, f1, this, hx], by rw [up_self, f2, this], by rw [this, hx]; exact hx0⟩
theorem OKs.next (h : OKs R tp m s) {F : Nat → Int} (hne : ¬ (kst tp s.2.2.2.2.2 = 0 ∧ s.1 = 4)) (hx : fl tp s = 0) (f1 : f58 (m 158) F) (f2 : RTk (up m 158 F) tp (kq tp s.2.2.2.2.2)) : OKs R tp (up m 158 F) (nxs tp s) := by
  obtain ⟨h1, h2, h3, h4, h5⟩ := h
  refine ⟨by rw [nxs_p]; exact f2, by rw [up_self, f1 33 (by decide)]; exact h2, by rw [up_self, f1 34 (by decide)]; exact h3, ?_, PV_s h5 hx⟩
  rw [← RUN_s h5.2.1 h5.1 hne hx]
  exact h4
theorem fr_58 {F : Nat → Int} (f1 : f58 (m 158) F) : fr [] FT m (up m 158 F) := fr.refl.up8 (fun j hj => f1 j (fun q => hj (by
  have : j = 35 ∨ j = 36 ∨ j = 37 ∨ j = 38 := by omega
  rcases this with rfl | rfl | rfl | rfl <;> decide)))
theorem fr_f {F : Nat → Int} (f1 : ∀ j, j ≠ 33 → j ≠ 34 → j ≠ 39 → F j = m 158 j) : fr [] FT m (up m 158 F) := fr.refl.up8 (fun j hj => f1 j (fun q => hj (by rw [q]; decide)) (fun q => hj (by rw [q]; decide)) (fun q => hj (by rw [q]; decide)))
theorem S_mustR {Q : MM → GM → am_H → Prop} {b : Int} (h : OKs R tp m s) (hne : ¬ (kst tp s.2.2.2.2.2 = 0 ∧ s.1 = 4)) (hb : b = 0 ∨ b = 1) (h0 : b = 0 → fl tp s = 1) (h1 : b = 1 → fl tp s = 0) (qb : ∀ m1, BD R m1 → fr [] FT m m1 → Q m1 γ t) (qg : ∀ m1, fl tp s = 0 → OKs R tp m1 (nxs tp s) → fr [] FT m m1 → Q m1 γ t) : TV E (k + 4) 227 [.ref 158, .int (iI b)] m γ t Q := by
  refine vc_X9_must (by omega) ⟨fun c => ?_, fun c => ?_⟩
  · refine S_faultsR s.2.2.2.2.2 h.1 (by omega) (fun F f1 f2 f3 f4 => ?_)
    have hB : BD R (up m 158 F) := h.flt hne (h0 c) (by decide) f2 f3 f4
    exact S_passB (by rw [hB.1]; decide) (qb _ hB (fr_f f1))
  · have hx := h1 (by omega)
    exact S_passR s.2.2.2.2.2 h.1 (fun F f1 f2 => qg _ hx (h.next hne hx f1 f2) (fr_58 f1))
theorem S_mustB {Q : MM → GM → am_H → Prop} {b : Int} (hb : b = 0 ∨ b = 1) (h : m 158 39 ≠ 0) (hQ : Q m γ t) : TV E (k + 4) 227 [.ref 158, .int (iI b)] m γ t Q := vc_X9_must (by omega) ⟨fun _ => S_faultsB (by omega) h (S_passB h hQ), fun _ => S_passB h hQ⟩
theorem S_numR {Q : Int → MM → GM → am_H → Prop} {lo hi : Int} (h : OKs R tp m s) (hlo : 0 ≤ lo ∧ lo ≤ 100) (hhi : -1 ≤ hi ∧ hi ≤ 100) (hne : ¬ (kst tp s.2.2.2.2.2 = 0 ∧ s.1 = 4)) (h1 : kst tp s.2.2.2.2.2 ≠ 2 → fl tp s = 1) (h2 : kst tp s.2.2.2.2.2 = 2 → ¬ (lo ≤ kv tp s.2.2.2.2.2 ∧ kv tp s.2.2.2.2.2 ≤ hi) → fl tp s = 2) (h0 : kst tp s.2.2.2.2.2 = 2 → lo ≤ kv tp s.2.2.2.2.2 ∧ kv tp s.2.2.2.2.2 ≤ hi → fl tp s = 0) (qb : ∀ m1, BD R m1 → fr [] FT m m1 → Q lo m1 γ t) (qg : ∀ m1, lo ≤ kv tp s.2.2.2.2.2 ∧ kv tp s.2.2.2.2.2 ≤ hi → fl tp s = 0 → OKs R tp m1 (nxs tp s) → fr [] FT m m1 → Q (kv tp s.2.2.2.2.2) m1 γ t) : TI E (k + 4) 229 [.ref 158, .int (iI lo), .int (iI hi)] m γ t Q := by
  obtain ⟨g1, g2, g3, g4, g5, g6, g7⟩ := h.1
  have bad : ∀ (x v : Int), rJ x → fl tp s = x → x ≠ 0 → TV E (k + 3) 224 [.ref 158, .int (iI x)] m γ t (fun m11 γ11 t11 => TV E (k + 3) 225 [.ref 158] m11 γ11 t11 (fun m12 γ12 t12 => ((m12 158 39 = 0) → Q v m12 γ12 t12) ∧ (¬ (m12 158 39 = 0) → Q lo m12 γ12 t12))) := fun x v hx e hx0 => by
    refine S_faultsR s.2.2.2.2.2 h.1 hx (fun F f1 f2 f3 f4 => ?_)
    have hB : BD R (up m 158 F) := h.flt hne e hx0 f2 f3 f4
    have hb1 : up m 158 F 158 39 ≠ 0 := by rw [hB.1]; decide
    exact S_passB hb1 ⟨fun c => absurd c hb1, fun _ => qb _ hB (fr_f f1)⟩
  refine vc_X9_number (by omega) (by omega) ⟨fun _ => ?_, fun c => absurd g7 c⟩
  rw [g4]
  refine ⟨fun c => ?_, fun c => bad 1 _ (by omega) (h1 (fun q => c (by omega))) (by decide)⟩
  have hk : kst tp s.2.2.2.2.2 = 2 := by omega
  have hv := kv_num g2 hk
  rw [g6 hk]
  refine S_in (by omega) (by omega) (by omega) (fun c2 => b1 ?_) (fun c2 => b0 (bad 2 _ (by omega) (h2 hk c2) (by decide)))
  have hx := h0 hk c2
  refine S_passR s.2.2.2.2.2 h.1 (fun F f1 f2 => ?_)
  have hO := h.next hne hx f1 f2
  exact ⟨fun _ => qg _ c2 hx hO (fr_58 f1), fun z => absurd hO.1.2.2.2.2.2.2 z⟩
theorem S_numB {Q : Int → MM → GM → am_H → Prop} {lo hi : Int} (hlo : rJ lo) (hhi : rJ hi) (h : m 158 39 ≠ 0) (hQ : Q lo m γ t) : TI E (k + 4) 229 [.ref 158, .int (iI lo), .int (iI hi)] m γ t Q := vc_X9_number hlo hhi ⟨fun c => absurd c h, fun _ => hQ⟩
theorem GRD.fr {G : GV} {m1 : MM} (h : GRD m G) (hf : fr [] FT m m1) : GRD m1 G := ⟨h.1.fr hf (by decide) (by decide) (by decide) (by decide) (by decide) (by decide), fun e he => by rw [hf.1 162 (by decide) (by decide)]; exact h.2 e he⟩
theorem sp16 {b q : Nat} : spW tp b q 16 ↔ spW tp b q 5 := Iff.rfl
theorem sp17 {b q : Nat} : spW tp b q 17 ↔ spW tp b q 4 := Iff.rfl
theorem S_readsEdge {Q : MM → GM → am_H → Prop} {h : Int} (hE : EV E) (hO : OKs R tp m s) (h5 : s.1 = 5) (hh : s.2.2.1 = h) (hG : GRD m s.2.2.2.2.1) (qb : ∀ m1, BD R m1 → fr [162] FT m m1 → Q m1 γ t) (qg : ∀ m1 s', OKs R tp m1 s' → s'.1 = 7 → s'.2.2.1 = h → s.2.2.2.2.2 < s'.2.2.2.2.2 → GRD m1 s'.2.2.2.2.1 → fr [162] FT m m1 → Q m1 γ t) : TV E (k + 5) 230 [.ref 158, .int (iI h)] m γ t Q := by
  have hPV := hO.2.2.2.2
  obtain ⟨v1, v2, v3, v4, v5, v6, v7⟩ := hPV
  have hkd := v6 (by omega)
  have hle := v4.1.1.le
  have hpos := v5 (by omega)
  have hC : 1 ≤ s.2.2.2.2.1.2.1 := by
    have := v4.1.1
    unfold gok at this
    omega
  have hRC : s.2.2.2.2.1.1 * s.2.2.2.2.1.2.1 ≤ 4 * 4 := Nat.mul_le_mul hle.1 hle.2
  have hne5 : ¬ (kst tp s.2.2.2.2.2 = 0 ∧ s.1 = 4) := fun z => by omega
  have efl : fl tp s = ift (kst tp s.2.2.2.2.2 = 2) (ift (kv tp s.2.2.2.2.2 < ((s.2.2.2.2.1.1 * s.2.2.2.2.1.2.1 : Nat) : Int)) 0 2) 1 := by
    unfold fl
    rw [if_neg (by omega), if_neg (by omega), if_neg (by omega), if_neg (by omega), if_pos h5]
  have enx : nxs tp s = (6, s.2.1, s.2.2.1, kv tp s.2.2.2.2.2, s.2.2.2.2.1, kq tp s.2.2.2.2.2) := by
    unfold nxs
    rw [if_neg (by omega), if_neg (by omega), if_neg (by omega), if_neg (by omega), if_neg (by omega), if_pos h5]
  -- all is over
  have b120 : ∀ (m1 : MM) (y4 : Int), rJ y4 → BD R m1 → fr [162] FT m m1 → hd_X9_readsEdge_120 E (k + 4) h h y4 m1 γ t Q := fun m1 y4 hy hB hf => by
    have hb1 : m1 158 39 ≠ 0 := by rw [hB.1]; decide
    exact vc_X9_readsEdge_120 (by omega) (by omega) hy (S_passB hb1 ⟨fun c => absurd c hb1, fun _ => qb m1 hB hf⟩)
  have b77 : ∀ (m1 : MM) (y4 : Int), rJ y4 → BD R m1 → fr [162] FT m m1 → hd_X9_readsEdge_77 E (k + 4) h h y4 m1 γ t Q := fun m1 y4 hy hB hf => by
    have hb1 : m1 158 39 ≠ 0 := by rw [hB.1]; decide
    exact vc_X9_readsEdge_77 (by omega) (by omega) hy ⟨fun c => absurd c hb1, fun _ => b120 m1 y4 hy hB hf⟩
  have b46 : ∀ (m1 : MM) (y2 y3 : Int), rJ y2 → rJ y3 → BD R m1 → fr [162] FT m m1 → hd_X9_readsEdge_46 E (k + 4) h h y2 y3 m1 γ t Q := fun m1 y2 y3 hy2 hy3 hB hf => by
    have hb1 : m1 158 39 ≠ 0 := by rw [hB.1]; decide
    exact vc_X9_readsEdge_46 (by omega) (by omega) hy2 hy3 ⟨fun c => absurd c hb1, fun _ => b77 m1 (-1) (by omega) hB hf⟩
  refine vc_X9_readsEdge (by omega) (S_cells hG.1 hle.1 hle.2 ?_)
  refine S_numR (s := s) hO (by omega) (by omega) hne5 (fun q => by rw [efl]; exact ift_f q) (fun q1 q2 => by rw [efl, ift_t q1]; exact ift_f (fun z => q2 ⟨(kv_num v2 q1).1, by omega⟩)) (fun q1 q2 => by rw [efl, ift_t q1]; exact ift_t (by omega)) (fun m1 hB f1 => ?_) (fun m1 hr hx hO1 f1 => ?_)
  · have hb1 : m1 158 39 ≠ 0 := by rw [hB.1]; decide
    refine S_isWordB 16 (by decide) hb1 ⟨fun c => absurd c hb1, fun _ => b46 m1 0 0 (by omega) (by omega) hB (f1.mono (by decide) (by decide))⟩
  · rw [enx] at hO1
    generalize hp6 : kq tp s.2.2.2.2.2 = p6 at *
    generalize hce : kv tp s.2.2.2.2.2 = ce at *
    have hlt : s.2.2.2.2.2 < p6 := by
      have := (kq_gt v2).2.2.2.2 (fl_k v1 hx)
      have := (kq_gt v2).2.1
      omega
    have hG1 := hG.fr f1
    have f1' : fr [162] FT m m1 := f1.mono (by decide) (by decide)
    have hk6 := hO1.1.2.2.2.1
    have hb6 := hO1.1.2.2.2.2.2.2
    dsimp only at hk6
    have hne6 : ¬ (kst tp p6 = 0 ∧ (6 : Nat) = 4) := fun z => absurd z.2 (by decide)
    have efl6 : fl tp (6, s.2.1, s.2.2.1, ce, s.2.2.2.2.1, p6) = ift (kst tp p6 = 1 ∧ (kv tp p6 = 4 ∨ kv tp p6 = 5)) (if edg (6, s.2.1, s.2.2.1, ce, s.2.2.2.2.1, p6) (kv tp p6) = -1 then 3 else if s.2.2.2.2.1.2.2 (edg (6, s.2.1, s.2.2.1, ce, s.2.2.2.2.1, p6) (kv tp p6)).toNat = 0 then 0 else 4) 1 := rfl
    -- the edge is looked up
    have g46 : ∀ (bb : Nat) (y3 : Int), (bb = 0 ∧ y3 = 0) ∨ (bb = 1 ∧ y3 = 1) → kst tp p6 = 1 → (kv tp p6 = 4 ∨ kv tp p6 = 5) → (if kv tp p6 = 4 then 0 else 1) = bb → hd_X9_readsEdge_46 E (k + 4) h h ce y3 m1 γ t Q := by
      intro bb y3 hbb hk hkv hsel
      have hed : edg (6, s.2.1, s.2.2.1, ce, s.2.2.2.2.1, p6) (kv tp p6) = geb s.2.2.2.2.1.1 s.2.2.2.2.1.2.1 (2 * ce.toNat + bb) := by
        show geb s.2.2.2.2.1.1 s.2.2.2.2.1.2.1 (2 * ce.toNat + (if kv tp p6 = 4 then 0 else 1)) = _
        rw [hsel]
      rw [hed, ift_t ⟨hk, hkv⟩] at efl6
      have hbd : bb ≤ 1 := by omega
      have hge := geb_rng _ hle.1 _ hle.2 (2 * ce.toNat + bb) (by omega)
      have hgn := gn_le _ hle.1 _ hle.2
      have h165 : m1 165 (2 * ce.toNat + bb) = geb s.2.2.2.2.1.1 s.2.2.2.2.1.2.1 (2 * ce.toNat + bb) := hG1.1.2.2.2.2 _ (by omega)
      have g77 : hd_X9_readsEdge_77 E (k + 4) h h (geb s.2.2.2.2.1.1 s.2.2.2.2.1.2.1 (2 * ce.toNat + bb)) m1 γ t Q := by
        refine vc_X9_readsEdge_77 (by omega) (by omega) (by omega) ⟨fun _ => ⟨fun c => ?_, fun c => ⟨by omega, ?_⟩⟩, fun c => absurd hb6 c⟩
        · rw [if_pos c] at efl6
          refine S_faultsR p6 hO1.1 (by omega) (fun F e1 e2 e3 e4 => ?_)
          have hB : BD R (up m1 158 F) := hO1.flt hne6 efl6 (by decide) e2 e3 e4
          exact b120 _ _ (by omega) hB (f1'.trans ((fr_f e1).mono (by decide) (by decide)))
        · rw [if_neg c] at efl6
          rw [hG1.2 _ (by omega)]
          refine ⟨fun c2 => ?_, fun c2 => ?_⟩
          · rw [if_pos c2] at efl6
            refine vc_X9_readsEdge_120 (by omega) (by omega) (by omega) (S_passR p6 hO1.1 (fun F e1 e2 => ?_))
            have hO2 := hO1.next hne6 efl6 e1 e2
            have enx6 : nxs tp (6, s.2.1, s.2.2.1, ce, s.2.2.2.2.1, p6) = (7, s.2.1, s.2.2.1, ce, (s.2.2.2.2.1.1, s.2.2.2.2.1.2.1, up s.2.2.2.2.1.2.2 (geb s.2.2.2.2.1.1 s.2.2.2.2.1.2.1 (2 * ce.toNat + bb)).toNat s.2.2.1), kq tp p6) := by
              show (7, s.2.1, s.2.2.1, ce, (s.2.2.2.2.1.1, s.2.2.2.2.1.2.1, up s.2.2.2.2.1.2.2 (edg (6, s.2.1, s.2.2.1, ce, s.2.2.2.2.1, p6) (kv tp p6)).toNat s.2.2.1), kq tp p6) = _
              rw [hed]
            rw [enx6] at hO2
            refine ⟨fun _ => ⟨by omega, ?_⟩, fun z => absurd hO2.1.2.2.2.2.2.2 z⟩
            have hG2 := hG1.fr (fr_58 e1)
            generalize hm2 : up m1 158 F = m2 at *
            have fm2 : fr [] FT m1 m2 := hm2 ▸ fr_58 e1
            have hup : ∀ (F2 : Nat → Int) (b : Nat), b ≠ 162 → up m2 162 F2 b = m2 b := fun F2 b hb => up_ne hb
            refine qg _ (7, s.2.1, s.2.2.1, ce, (s.2.2.2.2.1.1, s.2.2.2.2.1.2.1, up s.2.2.2.2.1.2.2 (geb s.2.2.2.2.1.1 s.2.2.2.2.1.2.1 (2 * ce.toNat + bb)).toNat s.2.2.1), kq tp p6) ?_ rfl hh ?_ ?_ ?_
            · obtain ⟨⟨⟨o1, o2, o3⟩, o4, o5, o6, o7, o8, o9⟩, p2, p3, p4, p5⟩ := hO2
              refine ⟨⟨⟨by rw [hup _ 158 (by decide)]; exact o1, o2, fun i hi => by rw [hup _ 182 (by decide)]; exact o3 i hi⟩, o4, ?_, ?_, ?_, fun q => ?_, ?_⟩, ?_, ?_, p4, p5⟩ <;> rw [hup _ 158 (by decide)]
              · exact o5
              · exact o6
              · exact o7
              · exact o8 q
              · exact o9
              · exact p2
              · exact p3
            · have := (kq_gt hO1.2.2.2.2.2.1).2.2.2.2 (by rw [hk]; decide)
              have := (kq_gt hO1.2.2.2.2.2.1).2.1
              show s.2.2.2.2.2 < kq tp p6
              dsimp only at *
              omega
            · refine ⟨hG2.1.fr (fr.refl.upa 162 (l := [162]) (fl := []) (by decide) (by decide)) (by decide) (by decide) (by decide) (by decide) (by decide) (by decide), fun e he => ?_⟩
              rw [up_self]
              show up (m2 162) _ h e = up s.2.2.2.2.1.2.2 _ s.2.2.1 e
              unfold up
              split
              · exact hh.symm
              · exact hG2.2 e he
            · exact (f1'.trans (fm2.mono (by decide) (by decide))).upa 162 (by decide) (by decide)
          · rw [if_neg c2] at efl6
            refine S_faultsR p6 hO1.1 (by omega) (fun F e1 e2 e3 e4 => ?_)
            have hB : BD R (up m1 158 F) := hO1.flt hne6 efl6 (by decide) e2 e3 e4
            exact b120 _ _ (by omega) hB (f1'.trans ((fr_f e1).mono (by decide) (by decide)))
      refine vc_X9_readsEdge_46 (by omega) (by omega) (by omega) (by omega) ⟨fun _ => ⟨fun c => ?_, fun c => ?_⟩, fun c => absurd hb6 c⟩
      · have e0 : bb = 0 := by omega
        subst e0
        rw [show (2 * ce + 0).toNat = 2 * ce.toNat + 0 by omega, h165]
        exact ⟨by omega, g77⟩
      · have e0 : bb = 1 := by omega
        subst e0
        rw [show (2 * ce + 1).toNat = 2 * ce.toNat + 1 by omega, h165]
        exact ⟨by omega, g77⟩
    refine S_isWord 16 p6 hE (by decide) hO1.1 (fun c => ⟨fun _ => b1 ?_, fun z => absurd hb6 z⟩) (fun c => ⟨fun _ => b0 ?_, fun z => absurd hb6 z⟩)
    · have hv : kv tp p6 = 5 := (kv_word c.1 (by decide)).mpr c.2
      exact g46 1 1 (Or.inr ⟨rfl, rfl⟩) c.1 (Or.inr hv) (by rw [if_neg (by omega)])
    · refine S_isWord 17 p6 hE (by decide) hO1.1 (fun c2 => b1 ?_) (fun c2 => b0 ?_)
      · have hv : kv tp p6 = 4 := (kv_word c2.1 (by decide)).mpr c2.2
        exact g46 0 0 (Or.inl ⟨rfl, rfl⟩) c2.1 (Or.inl hv) (by rw [if_pos hv])
      · have hno : fl tp (6, s.2.1, s.2.2.1, ce, s.2.2.2.2.1, p6) = 1 := by
          rw [efl6]
          refine ift_f (fun z => ?_)
          rcases z.2 with w | w
          · exact c2 ⟨z.1, sp17.mpr ((kv_word (i := 4) z.1 (by decide)).mp w)⟩
          · exact c ⟨z.1, sp16.mpr ((kv_word (i := 5) z.1 (by decide)).mp w)⟩
        refine S_faultsR p6 hO1.1 (by omega) (fun F e1 e2 e3 e4 => ?_)
        have hB : BD R (up m1 158 F) := hO1.flt hne6 hno (by decide) e2 e3 e4
        exact b46 _ _ _ (by omega) (by omega) hB (f1'.trans ((fr_f e1).mono (by decide) (by decide)))
theorem S_readsEdgeB {Q : MM → GM → am_H → Prop} {h : Int} (hh : rJ h) {G : GV} (hv : vG G) (hG : RSh m G.1 G.2.1) (hB : m 158 39 ≠ 0) (hQ : Q m γ t) : TV E (k + 5) 230 [.ref 158, .int (iI h)] m γ t Q := by
  have hle := hv.1.le
  have hRC : G.1 * G.2.1 ≤ 4 * 4 := Nat.mul_le_mul hle.1 hle.2
  refine vc_X9_readsEdge hh (S_cells hG hle.1 hle.2 (S_numB (by omega) (by omega) hB (S_isWordB 16 (by decide) hB ⟨fun c => absurd c hB, fun _ => ?_⟩)))
  refine vc_X9_readsEdge_46 hh hh (by omega) (by omega) ⟨fun c => absurd c hB, fun _ => ?_⟩
  refine vc_X9_readsEdge_77 hh hh (by omega) ⟨fun c => absurd c hB, fun _ => ?_⟩
  exact vc_X9_readsEdge_120 hh hh (by omega) (S_passB hB ⟨fun c => absurd c hB, fun _ => hQ⟩)
end RO
