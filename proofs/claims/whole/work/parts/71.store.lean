/-! ===== the reference: slots, what is kept ===== -/
theorem EN.congr {row row2 : Nat → Int} {g : Nat → GV} (h : EN row g) (e : ∀ j, j < 78 → row2 j = row j) : EN row2 g := by
  intro s hs
  obtain ⟨h1, h2, h3⟩ := h s hs
  refine ⟨(e _ (by omega)).trans h1, (e _ (by omega)).trans h2, fun q hq => (e _ (by omega)).trans (h3 q hq)⟩
/-- what is kept, the latest first -/
def KP (m : MM) (ks : List (Nat → GV)) : Prop := m 158 3 = (ks.length : Int) ∧ ks.length ≤ 10 ∧ ∀ i, (h : i < ks.length) → EN (fun j => m 161 (78 * (ks.length - 1 - i) + j)) ks[i]
theorem KP.fr {m m1 : MM} {ks : List (Nat → GV)} {l fl : List Nat} (h : KP m ks) (hf : fr l fl m m1) (h1 : 161 ∉ l) (h2 : 3 ∉ fl) : KP m1 ks := by
  refine ⟨(hf.2 3 h2).trans h.1, h.2.1, fun i hi => ?_⟩
  rw [hf.1 161 (by decide) h1]
  exact h.2.2 i hi
section R1
variable {E : am_E} {k : Nat} {m : MM} {γ : GM} {t : am_H}
theorem S_keeps {Q : Int → MM → GM → am_H → Prop} {w : Nat → GV} {ks : List (Nat → GV)} {v : Int} (hw : EN (m 160) w) (hk : KP m ks) (hv : rJ v) (hQ : ∀ m1, fr [161] [3] m m1 → KP m1 ((w :: ks).take 10) → Q v m1 γ t) : TI E k 197 [.ref 158, .int (iI v)] m γ t Q := by
  -- the second half, from a list of at most nine
  have second : ∀ (m0 : MM) (ks0 : List (Nat → GV)), fr [161] [3] m m0 → KP m0 ks0 → ks0.length ≤ 9 → (w :: ks0) = (w :: ks).take 10 → hd_X9_keeps_51 E k v v 0 m0 γ t Q := by
    intro m0 ks0 hf0 hk0 hl he
    refine upN (n := 78) (P := fun e => ∀ m1, fr [161] [3] m m1 → m1 158 3 = (ks0.length : Int) → (∀ j, j < 78 * ks0.length → m1 161 j = m0 161 j) → (∀ j, j < e → m1 161 (78 * ks0.length + j) = m 160 j) → hd_X9_keeps_51 E k v v (e : Int) m1 γ t Q) ?_ ?_ 0 (by decide) m0 hf0 hk0.1 (fun _ _ => rfl) (fun j hj => absurd hj (Nat.not_lt_zero _))
    · intro m1 hf h3 hlo hhi
      refine vc_X9_keeps_51 hv hv (by omega) ⟨fun c => absurd c (by omega), fun c => ⟨by omega, hQ _ (hf.upf (by decide)) ?_⟩⟩
      rw [← he]
      refine ⟨?_, ?_, ?_⟩
      · show m1 158 3 + 1 = _
        rw [h3, List.length_cons]
        omega
      · rw [List.length_cons]
        omega
      · intro i hi
        cases i with
        | zero =>
          refine hw.congr (fun j hj => ?_)
          show m1 161 (78 * ((w :: ks0).length - 1 - 0) + j) = m 160 j
          rw [List.length_cons, show ks0.length + 1 - 1 - 0 = ks0.length by omega]
          exact hhi j hj
        | succ i =>
          have hi : i < ks0.length := by rw [List.length_cons] at hi; omega
          refine (hk0.2.2 i hi).congr (fun j hj => ?_)
          show m1 161 (78 * ((w :: ks0).length - 1 - (i + 1)) + j) = m0 161 (78 * (ks0.length - 1 - i) + j)
          rw [List.length_cons, show ks0.length + 1 - 1 - (i + 1) = ks0.length - 1 - i by omega]
          exact hlo _ (by omega)
    · intro e he ih m1 hf h3 hlo hhi
      refine vc_X9_keeps_51 hv hv (by omega) ⟨fun c => ⟨by omega, by omega, ?_⟩, fun c => absurd c (by omega)⟩
      have e1 : (((78 * (m1 158 3)) + (e : Int))).toNat = 78 * ks0.length + e := by rw [h3]; omega
      rw [e1]
      refine ih _ (hf.upa 161 (by decide) (by decide)) h3 (fun j hj => ?_) (fun j hj => ?_)
      · rw [up_self, up_ne (by omega)]
        exact hlo j hj
      · rw [up_self, Int.toNat_natCast, hf.1 160 (by decide) (by decide)]
        unfold up
        split
        · next h => rw [show j = e by omega]
        · exact hhi j (by omega)
  refine vc_X9_keeps hv ⟨fun c => ?_, fun c => ?_⟩
  · have hl : ks.length = 10 := by have := hk.1; omega
    refine upN (n := 702) (P := fun e => ∀ m1, fr [161] [3] m m1 → m1 158 3 = 10 → (∀ j, j < e → m1 161 j = m 161 (j + 78)) → (∀ j, e ≤ j → m1 161 j = m 161 j) → hd_X9_keeps_11 E k v v (e : Int) m1 γ t Q) ?_ ?_ 0 (by decide) m fr.refl c (fun j hj => absurd hj (Nat.not_lt_zero _)) (fun _ _ => rfl)
    · intro m1 hf h3 hlo hhi
      refine vc_X9_keeps_11 hv hv (by omega) ⟨fun c => absurd c (by omega), fun c => ⟨by omega, ?_⟩⟩
      refine second _ (ks.take 9) (hf.upf (by decide)) ⟨?_, by simp; omega, fun i hi => ?_⟩ (by simp; omega) (by simp)
      · show m1 158 3 - 1 = _
        rw [h3, List.length_take, hl]
        rfl
      · rw [List.length_take, hl] at hi
        have hi9 : i < 9 := by omega
        rw [List.getElem_take]
        refine (hk.2.2 i (by omega)).congr (fun j hj => ?_)
        show m1 161 (78 * ((ks.take 9).length - 1 - i) + j) = m 161 (78 * (ks.length - 1 - i) + j)
        rw [List.length_take, hl, hlo _ (by omega)]
        congr 1
        omega
    · intro e he ih m1 hf h3 hlo hhi
      refine vc_X9_keeps_11 hv hv (by omega) ⟨fun c => ⟨by omega, by omega, ?_⟩, fun c => absurd c (by omega)⟩
      rw [show ((e : Int) + 78).toNat = e + 78 by omega]
      refine ih _ (hf.upa 161 (by decide) (by decide)) h3 (fun j hj => ?_) (fun j hj => ?_)
      · rw [up_self, Int.toNat_natCast]
        unfold up
        split
        · next h => rw [h]; exact hhi _ (by omega)
        · exact hlo j (by omega)
      · rw [up_self, Int.toNat_natCast, up_ne (by omega)]
        exact hhi j (by omega)
  · have hl : ks.length ≠ 10 := fun e => c (by rw [hk.1, e]; rfl)
    have := hk.2.1
    exact second m ks fr.refl hk (by omega) (by rw [List.take_of_length_le]; rw [List.length_cons]; omega)
theorem S_undo {Q : Int → MM → GM → am_H → Prop} {ks : List (Nat → GV)} (hk : KP m ks) (h0 : ks = [] → Q (-1) m γ t) (hQ : ∀ w r m1, ks = w :: r → fr [159] [3] m m1 → EN (m1 159) w → KP m1 r → Q (r.length : Int) m1 γ t) : TI E k 198 [.ref 158] m γ t Q := by
  refine vc_X9_undo ⟨fun c => h0 (List.eq_nil_of_length_eq_zero (by have := hk.1; omega)), fun c => ?_⟩
  cases ks with
  | nil => exact absurd hk.1 c
  | cons w r =>
    have h3 := hk.1
    have h10 := hk.2.1
    rw [List.length_cons] at h3 h10
    refine ⟨by omega, ?_⟩
    refine upN (n := 78) (P := fun e => ∀ m1, fr [159] [3] m m1 → m1 158 3 = (r.length : Int) → (∀ j, j < e → m1 159 j = m 161 (78 * r.length + j)) → hd_X9_undo_21 E k (e : Int) m1 γ t Q) ?_ ?_ 0 (by decide) _ (fr.refl.upf (by decide)) (by show m 158 3 - 1 = _; omega) (fun j hj => absurd hj (Nat.not_lt_zero _))
    · intro m1 hf h4 hlo
      refine vc_X9_undo_21 (by omega) ⟨fun c => absurd c (by omega), fun c => ?_⟩
      rw [h4]
      refine hQ w r m1 rfl hf ?_ ⟨h4, by omega, fun i hi => ?_⟩
      · refine (hk.2.2 0 (by rw [List.length_cons]; omega)).congr (fun j hj => ?_)
        rw [hlo j hj]
        show _ = m 161 (78 * ((w :: r).length - 1 - 0) + j)
        rw [List.length_cons]
        rfl
      · refine (hk.2.2 (i + 1) (by rw [List.length_cons]; omega)).congr (fun j hj => ?_)
        rw [hf.1 161 (by decide) (by decide)]
        show _ = m 161 (78 * ((w :: r).length - 1 - (i + 1)) + j)
        rw [List.length_cons, show r.length + 1 - 1 - (i + 1) = r.length - 1 - i by omega]
    · intro e he ih m1 hf h4 hlo
      refine vc_X9_undo_21 (by omega) ⟨fun c => ⟨by omega, by omega, ?_⟩, fun c => absurd c (by omega)⟩
      rw [show (((78 * (m1 158 3)) + (e : Int))).toNat = 78 * r.length + e by rw [h4]; omega]
      refine ih _ (hf.upa 159 (by decide) (by decide)) h4 (fun j hj => ?_)
      rw [up_self, Int.toNat_natCast, hf.1 161 (by decide) (by decide)]
      unfold up
      split
      · next h => rw [h]
      · exact hlo j (by omega)
/-- a slot becomes another one -/
def gset (g : Nat → GV) (s : Nat) (G : GV) : Nat → GV := fun i => if i = s then G else g i
def g00 : GV := (0, 0, fun _ => 0)
theorem S_drops {Q : Int → MM → GM → am_H → Prop} {g : Nat → GV} {ks : List (Nat → GV)} {s : Int} (he : EN (m 159) g) (hk : KP m ks) (h1 : rJ s) (qn : ¬ (0 ≤ s ∧ s < 3) → Q (-2) m γ t) (q0 : 0 ≤ s ∧ s < 3 → ¬ isG g s → Q 0 m γ t) (q1 : ∀ m1, isG g s → fr [159, 160, 161] [3] m m1 → EN (m1 159) (gset g s.toNat g00) → KP m1 ((g :: ks).take 10) → Q 1 m1 γ t) : TI E (k + 3) 199 [.ref 158, .int (iI s)] m γ t Q := by
  refine vc_X9_drops h1 (S_isSlot h1 (fun c => b1 (S_isGrid he h1 (fun c2 => b1 (S_remembers (fun m1 hf hw => ?_))) (fun c2 => b0 (q0 c c2)))) (fun c => b0 (qn c)))
  have hf' : fr [159, 160, 161] [3] m m1 := hf.mono (by decide) (by decide)
  refine upN (n := 26) (P := fun e => ∀ m2, fr [159, 160, 161] [3] m m2 → m2 160 = m1 160 → KP m2 ks → (∀ j, j < 78 → m2 159 j = if 26 * s.toNat ≤ j ∧ j < 26 * s.toNat + e then 0 else m 159 j) → hd_X9_drops_26 E (k + 2) s s (e : Int) m2 γ t Q) ?_ ?_ 0 (by decide) m1 hf' rfl (hk.fr hf (by decide) (by decide)) (fun j hj => ?_)
  · intro m2 hf2 h160 hk2 hrow
    refine vc_X9_drops_26 h1 h1 (by omega) ⟨fun c => absurd c (by omega), fun c3 => ?_⟩
    refine S_keeps (w := g) (ks := ks) (by rw [h160]; exact he.congr hw) hk2 (by decide) (fun m3 hf3 hk3 => ?_)
    refine q1 m3 c2 (hf2.trans (hf3.mono (by decide) (by decide))) ?_ hk3
    rw [hf3.1 159 (by decide) (by decide)]
    intro i hi
    obtain ⟨a1, a2, a3⟩ := he i hi
    unfold gset
    by_cases hi2 : i = s.toNat
    · rw [if_pos hi2, hrow _ (by omega), hrow _ (by omega), if_pos (by omega), if_pos (by omega)]
      exact ⟨rfl, rfl, fun e hee => by rw [hrow _ (by omega), if_pos (by omega)]; rfl⟩
    · rw [if_neg hi2, hrow _ (by omega), hrow _ (by omega), if_neg (by omega), if_neg (by omega)]
      exact ⟨a1, a2, fun e hee => by rw [hrow _ (by omega), if_neg (by omega)]; exact a3 e hee⟩
  · intro e hee ih m2 hf2 h160 hk2 hrow
    refine vc_X9_drops_26 h1 h1 (by omega) ⟨fun c => ⟨by omega, ?_⟩, fun c => absurd c (by omega)⟩
    rw [show ((26 * s) + (e : Int)).toNat = 26 * s.toNat + e by omega]
    refine ih _ (hf2.upa 159 (by decide) (by decide)) h160 (hk2.fr (l := [159]) (fl := []) (fr.refl.upa 159 (by decide) (by decide)) (by decide) (by decide)) (fun j hj => ?_)
    rw [up_self]
    by_cases hj2 : j = 26 * s.toNat + e
    · subst hj2
      rw [up_self, if_pos (by omega)]
    · rw [up_ne hj2, hrow j hj]
      split
      · rw [if_pos (by omega)]
      · rw [if_neg (by omega)]
  · rw [if_neg (by omega), hf.1 159 (by decide) (by decide)]
theorem isG.sh {g : Nat → GV} {s : Int} (h : isG g s) (hv : vG (g s.toNat)) : 1 ≤ (g s.toNat).1 ∧ (g s.toNat).1 ≤ 4 ∧ 1 ≤ (g s.toNat).2.1 ∧ (g s.toNat).2.1 ≤ 4 := by
  have h1 := hv.1
  have h2 := h.2.2
  unfold gok at h1
  omega
theorem S_lays {Q : MM → GM → am_H → Prop} {g : Nat → GV} {s : Int} (he : EN (m 159) g) (hs : isG g s) (hv : vG (g s.toNat)) (hQ : ∀ m1, fr [162, 163, 164, 165] [4, 5, 6] m m1 → RG m1 (g s.toNat) → Q m1 γ t) : TV E (k + 1) 201 [.ref 158, .int (iI s)] m γ t Q := by
  have hs0 := hs
  obtain ⟨s0, s1, s2⟩ := hs
  obtain ⟨a1, a2, a3⟩ := he s.toNat (by omega)
  have hsh := hs0.sh hv
  have hgn := gn_le _ hsh.2.1 _ hsh.2.2.2
  refine vc_X9_lays (by omega) ⟨by omega, by omega, ?_⟩
  rw [show (26 * s).toNat = 26 * s.toNat by omega, show ((26 * s) + 1).toNat = 26 * s.toNat + 1 by omega, a1, a2]
  refine S_shapes ⟨hsh.1, hsh.2.1⟩ hsh.2.2 (fun m1 hf hS => ?_)
  refine upN (n := gn (g s.toNat).1 (g s.toNat).2.1) (P := fun e => ∀ m2, fr [162, 163, 164, 165] [4, 5, 6] m m2 → RSh m2 (g s.toNat).1 (g s.toNat).2.1 → (∀ j, j < e → m2 162 j = (g s.toNat).2.2 j) → hd_X9_lays_26 E k s s (e : Int) m2 γ t Q) ?_ ?_ 0 (Nat.zero_le _) m1 (hf.mono (by decide) (by decide)) hS (fun j hj => absurd hj (Nat.not_lt_zero _))
  · intro m2 hf2 hS2 hrow
    have h6 := hS2.2.2.1
    refine vc_X9_lays_26 (by omega) (by omega) (by omega) ⟨fun c => absurd c (by omega), fun c => hQ m2 hf2 ⟨hS2, hrow, hv, s2⟩⟩
  · intro e hee ih m2 hf2 hS2 hrow
    have h6 := hS2.2.2.1
    refine vc_X9_lays_26 (by omega) (by omega) (by omega) ⟨fun c => ⟨by omega, by omega, ?_⟩, fun c => absurd c (by omega)⟩
    rw [show (((26 * s) + 2) + (e : Int)).toNat = 26 * s.toNat + 2 + e by omega, Int.toNat_natCast]
    refine ih _ (hf2.upa 162 (by decide) (by decide)) (hS2.fr (l := [162]) (fl := []) (fr.refl.upa 162 (by decide) (by decide)) (by decide) (by decide) (by decide) (by decide) (by decide) (by decide)) (fun j hj => ?_)
    rw [up_self]
    unfold up
    split
    · next h => rw [h, hf2.1 159 (by decide) (by decide)]; exact a3 e (by omega)
    · exact hrow j (by omega)
end R1
