/-! ===== the reference: all passings; a grid is laid ===== -/
def crX (G : GV) (e : Nat) : Prop := G.2.2 e = 0 ∨ G.2.2 e = 1
def ovL (G : GV) : PA := (aG G).2.1.filter (fun y => pO G y.2.2)
def unL (G : GV) : PA := (aG G).2.1.filter (fun y => !pO G y.2.2)
def oS (G : GV) : Nat → Int := fu (fun y => pE G y.2.2) (fun y => (y.2.1 : Int)) (fun _ => -1) (ovL G)
def uS (G : GV) : Nat → Int := fu (fun y => pE G y.2.2) (fun y => (y.2.1 : Int)) (fun _ => -1) (unL G)
def oX (G : GV) : Nat → Int := fu (fun y => pE G y.2.2) (fun y => dX y.2.2.1 y.2.2.2) (fun _ => -1) (ovL G)
def oY (G : GV) : Nat → Int := fu (fun y => pE G y.2.2) (fun y => dY y.2.2.1 y.2.2.2) (fun _ => -1) (ovL G)
def uX (G : GV) : Nat → Int := fu (fun y => pE G y.2.2) (fun y => dX y.2.2.1 y.2.2.2) (fun _ => -1) (unL G)
def uY (G : GV) : Nat → Int := fu (fun y => pE G y.2.2) (fun y => dY y.2.2.1 y.2.2.2) (fun _ => -1) (unL G)
/-- the reference's rows of passings -/
def RP (m : MM) (G : GV) : Prop := (∀ e, e < gn G.1 G.2.1 → crX G e → m 171 e = oS G e ∧ m 172 e = uS G e ∧ m 173 e = oP G e ∧ m 174 e = uP G e ∧ m 175 e = oX G e ∧ m 176 e = oY G e ∧ m 177 e = uX G e ∧ m 178 e = uY G e) ∧ (∀ j, j < nP G → m 179 j = pEd G j ∧ m 180 j = pOv G j) ∧ (∀ s, s ≤ nS G → m 181 s = pB G s)
theorem fu_ent {G : GV} (hG : vG G) {v : Nat × Nat × Nat × Bool → Int} {F : Nat → Int} {x : Nat × Nat × Nat × Bool} (hx : x ∈ (aG G).1) : fu (fun x => x.2.2.1) v F (aG G).1 x.2.2.1 = v x := by
  have hn := (out_clo hG (nC G) (Nat.le_refl _)).1.1
  obtain ⟨y, hy1, hy2, hy⟩ := fu_in (i := fun x : Nat × Nat × Nat × Bool => x.2.2.1) (v := v) (c := x.2.2.1) ⟨x, hx, rfl⟩
  rw [hy]
  rw [nodup_inj (f := fun x : Nat × Nat × Nat × Bool => x.2.2.1) hn y hy1 x hx hy2]
theorem ent_lt {G : GV} (hG : vG G) {x : Nat × Nat × Nat × Bool} (hx : x ∈ (aG G).1) : x.2.2.1 < nC G := (out_clo hG (nC G) (Nat.le_refl _)).1.2.1 _ (List.mem_map.mpr ⟨x, hx, rfl⟩)
theorem ov_mem {G : GV} (hG : vG G) {e : Nat} (he : e < gn G.1 G.2.1) (hx : crX G e) : (∃ y ∈ ovL G, pE G y.2.2 = e) ∧ (∃ y ∈ unL G, pE G y.2.2 = e) := by
  constructor
  · obtain ⟨y, h1, h2, h3⟩ := pass_all hG he hx true
    refine ⟨y, List.mem_filter.mpr ⟨h1, h3⟩, ?_⟩
    unfold pE
    rw [h2]
    exact Int.toNat_natCast e
  · obtain ⟨y, h1, h2, h3⟩ := pass_all hG he hx false
    refine ⟨y, List.mem_filter.mpr ⟨h1, ?_⟩, ?_⟩
    · show (!pO G y.2.2) = true
      rw [show pO G y.2.2 = false from h3]
      rfl
    · unfold pE
      rw [h2]
      exact Int.toNat_natCast e
theorem RPm_RP {G : GV} (hG : vG G) {m0 m : MM} (h : RPm G m0 m (aG G).2.1) (hB : ∀ s, s ≤ nS G → m 181 s = pB G s) : RP m G := by
  obtain ⟨⟨a1, a2, a3, a4⟩, ⟨b1, b2, b3, b4⟩, c1, c2⟩ := h
  refine ⟨fun e he hx => ?_, fun j hj => ⟨?_, ?_⟩, hB⟩
  · obtain ⟨o1, o2⟩ := ov_mem hG he hx
    have q1 := fun (v : Nat × Nat × Nat × Bool → Int) => fu_in (i := fun y : Nat × Nat × Nat × Bool => pE G y.2.2) (v := v) (c := e) o1
    have q2 := fun (v : Nat × Nat × Nat × Bool → Int) => fu_in (i := fun y : Nat × Nat × Nat × Bool => pE G y.2.2) (v := v) (c := e) o2
    refine ⟨?_, ?_, ?_, ?_, ?_, ?_, ?_, ?_⟩
    · obtain ⟨y, -, -, hy⟩ := q1 (fun y => (y.2.1 : Int))
      rw [a1]
      exact (hy _).trans (hy _).symm
    · obtain ⟨y, -, -, hy⟩ := q2 (fun y => (y.2.1 : Int))
      rw [b1]
      exact (hy _).trans (hy _).symm
    · obtain ⟨y, -, -, hy⟩ := q1 (fun y => (y.1 : Int))
      rw [a2]
      exact (hy _).trans (hy _).symm
    · obtain ⟨y, -, -, hy⟩ := q2 (fun y => (y.1 : Int))
      rw [b2]
      exact (hy _).trans (hy _).symm
    · obtain ⟨y, -, -, hy⟩ := q1 (fun y => dX y.2.2.1 y.2.2.2)
      rw [a3]
      exact (hy _).trans (hy _).symm
    · obtain ⟨y, -, -, hy⟩ := q1 (fun y => dY y.2.2.1 y.2.2.2)
      rw [a4]
      exact (hy _).trans (hy _).symm
    · obtain ⟨y, -, -, hy⟩ := q2 (fun y => dX y.2.2.1 y.2.2.2)
      rw [b3]
      exact (hy _).trans (hy _).symm
    · obtain ⟨y, -, -, hy⟩ := q2 (fun y => dY y.2.2.1 y.2.2.2)
      rw [b4]
      exact (hy _).trans (hy _).symm
  · rw [c1]
    exact lsF_base hj
  · rw [c2]
    exact lsF_base hj
theorem RS.fr {m m1 : MM} {G : GV} {l fl : List Nat} (h : RS m G) (hf : fr l fl m m1) (h1 : 166 ∉ l) (h2 : 167 ∉ l) (h3 : 168 ∉ l) (h4 : 169 ∉ l) (h5 : 170 ∉ l) (h6 : 16 ∉ fl) : RS m1 G := by
  unfold RS
  rw [hf.1 166 (by decide) h1, hf.1 167 (by decide) h2, hf.1 168 (by decide) h3, hf.1 169 (by decide) h4, hf.1 170 (by decide) h5, hf.2 16 h6]
  exact h
theorem RP.fr {m m1 : MM} {G : GV} {l fl : List Nat} (h : RP m G) (hf : fr l fl m m1) (h1 : ∀ a, a ∈ 181 :: LPs → a ∉ l) : RP m1 G := by
  have q := fun a (ha : a ∈ 181 :: LPs) => hf.1 a (fun e => by rw [e] at ha; revert ha; decide) (h1 a ha)
  unfold RP
  rw [q 171 (by decide), q 172 (by decide), q 173 (by decide), q 174 (by decide), q 175 (by decide), q 176 (by decide), q 177 (by decide), q 178 (by decide), q 179 (by decide), q 180 (by decide), q 181 (by decide)]
  exact h
theorem RPm.fr {m0 m m1 : MM} {G : GV} {P : PA} {l fl : List Nat} (h : RPm G m0 m P) (hf : fr l fl m m1) (h1 : ∀ a, a ∈ LPs → a ∉ l) : RPm G m0 m1 P := by
  have q := fun a (ha : a ∈ LPs) => hf.1 a (fun e => by rw [e] at ha; revert ha; decide) (h1 a ha)
  unfold RPm
  rw [q 171 (by decide), q 172 (by decide), q 173 (by decide), q 174 (by decide), q 175 (by decide), q 176 (by decide), q 177 (by decide), q 178 (by decide), q 179 (by decide), q 180 (by decide)]
  exact h
section R5
variable {E : am_E} {k : Nat} {m : MM} {γ : GM} {t : am_H}
theorem S_laysPassings {Q : MM → GM → am_H → Prop} {G : GV} (h : RG m G) (hQ : ∀ m1, fr (166 :: 167 :: 168 :: 169 :: 170 :: 181 :: LPs) [16, 17, 18, 19] m m1 → RG m1 G → RS m1 G → RP m1 G → Q m1 γ t) : TV E (k + 3) 212 [.ref 158] m γ t Q := by
  have hG := h.2.2.1
  have h64 := nC_le64 hG
  have hnS := nS_nC G
  have hnP := nP_le hG
  refine vc_X9_laysPassings (S_goes h (fun m0 hf0 hS0 => ?_))
  have hR0 := h.fr hf0 (by decide) (by decide) (by decide) (by decide) (by decide) (by decide) (by decide)
  let J : Nat → Nat → MM → Prop := fun s i m1 => fr (181 :: LPs) [17, 18, 19] m0 m1 ∧ RPm G m0 m1 ((aG G).2.1.take (cp G i)) ∧ ∀ s', s' < s → m1 181 s' = pB G s'
  have inner : ∀ s, s < nS G → (∀ m1, J (s + 1) (bg G (s + 1)) m1 → hd_X9_laysPassings_8 E (k + 2) (cp G (bg G (s + 1)) : Int) ((s : Int) + 1) m1 γ t Q) → ∀ i, i ≤ bg G (s + 1) → bg G s ≤ i → ∀ m1, J (s + 1) i m1 → hd_X9_laysPassings_30 E (k + 2) (cp G i : Int) (s : Int) (i : Int) m1 γ t Q := by
    intro s hs hnext
    have hb1 := tB_bg (show s + 1 ≤ nS G by omega) hG
    have hb2 := bg_le hG (show s + 1 ≤ nS G by omega)
    refine upN ?_ ?_
    · intro _ m1 hJ
      have hS1 := hS0.fr hJ.1 (by decide) (by decide) (by decide) (by decide) (by decide) (by decide)
      have hcp := cp_le (G := G) (bg G (s + 1))
      refine vc_X9_laysPassings_30 (by omega) (by omega) (by omega) ⟨by omega, fun c => absurd c ?_, fun c => hnext m1 hJ⟩
      rw [show ((s : Int) + 1).toNat = s + 1 by omega, hS1.2.1 _ (by omega), hb1]
      omega
    · intro i hi ih hbi m1 hJ
      have hS1 := hS0.fr hJ.1 (by decide) (by decide) (by decide) (by decide) (by decide) (by decide)
      have hR1 := hR0.fr hJ.1 (by decide) (by decide) (by decide) (by decide) (by decide) (by decide) (by decide)
      have hcp := cp_le (G := G) i
      obtain ⟨x, hx⟩ := bg_ent hG hs hbi hi
      have hxm : (s, i - bg G s, x) ∈ (aG G).1 := List.mem_of_getElem? hx
      have hxl := ent_lt hG hxm
      simp only at hxl
      have h169 : m1 169 i = (x.1 : Int) := by
        rw [(hS1.1 i (by omega)).2.2.2]
        exact lsF_in hx
      have h168 : m1 168 x.1 = bb x.2 := by
        rw [(hS1.1 x.1 hxl).2.2.1]
        exact fu_ent hG hxm
      refine vc_X9_laysPassings_30 (by omega) (by omega) (by omega) ⟨by omega, fun c => ⟨by omega, ?_⟩, fun c => absurd ?_ c⟩
      · rw [Int.toNat_natCast, h169, Int.toNat_natCast, h168]
        refine ⟨by omega, S_goesOn (c := x.1) (b := x.2) rfl rfl hR1 hxl (fun m2 hf2 a1 a2 a3 => ?_)⟩
        have hR2 := hR1.fr hf2 (by decide) (by decide) (by decide) (by decide) (by decide) (by decide) (by decide)
        have her := exe_rng hG (x := x) hxl
        have hle := hR2.le
        have hcs := cp_succ hx
        simp only at hcs
        have hJ2 : fr (181 :: LPs) [17, 18, 19] m0 m2 ∧ RPm G m0 m2 ((aG G).2.1.take (cp G i)) ∧ ∀ s', s' < s + 1 → m2 181 s' = pB G s' := ⟨hJ.1.trans (hf2.mono (by decide) (by decide)), hJ.2.1.fr hf2 (by decide), fun s' hs' => by rw [hf2.1 181 (by decide) (by decide)]; exact hJ.2.2 s' hs'⟩
        have skip : isC G x = false → hd_X9_laysPassings_30 E (k + 2) (cp G i : Int) (s : Int) ((i : Int) + 1) m2 γ t Q := by
          intro hnc
          have hcs : cp G (i + 1) = cp G i := by rw [hcs, hnc]; rfl
          have := ih (by omega) m2 (by show _ ∧ RPm G m0 m2 (List.take (cp G (i + 1)) _) ∧ _; rw [hcs]; exact hJ2)
          rw [hcs] at this
          exact this
        rw [a3]
        refine ⟨fun c1 => skip ?_, fun c1 => ⟨by omega, ?_⟩⟩
        · unfold isC exk
          rw [if_pos c1]
          rfl
        · have hw := hR2.2.1 (exe G.1 G.2.1 x.1 x.2).toNat (by omega)
          have hk : exk G x = G.2.2 (exe G.1 G.2.1 x.1 x.2).toNat := by unfold exk; exact if_neg c1
          rw [hw]
          have hkr := hG.2 (exe G.1 G.2.1 x.1 x.2).toNat (by omega)
          refine S_isCross (by omega) (fun c2 => b1 ?_) (fun c2 => b0 (skip ?_))
          · have hi2 : isC G x = true := by
              unfold isC
              rw [hk]
              exact decide_eq_true c2
            rw [hi2, if_pos rfl] at hcs
            have hcp2 := cp_le (G := G) (i + 1)
            refine S_passes (c := x.1) (b := x.2) (s := s) (n := cp G i) rfl a3 hR2 hxl hi2 (by omega) (by omega) ?_
            have hp := pas_at hx hi2
            simp only at hp
            have htk : (aG G).2.1.take (cp G i + 1) = (aG G).2.1.take (cp G i) ++ [(cp G i, s, x)] := by
              rw [List.take_add_one, hp]
              rfl
            have hlen : ((aG G).2.1.take (cp G i)).length = cp G i := by
              rw [List.length_take]
              unfold nP at hcp
              omega
            have hfp := pasR_fr m2 s (pE G (x.1, x.2)) (cp G i) (dX x.1 x.2) (dY x.1 x.2) (pO G (x.1, x.2))
            have := ih (by omega) _ (show J (s + 1) (i + 1) (pasR m2 s (pE G (x.1, x.2)) (cp G i) (dX x.1 x.2) (dY x.1 x.2) (pO G (x.1, x.2))) from ⟨hJ2.1.trans (hfp.mono (by decide) (by decide)), by rw [hcs, htk]; exact RPm_snoc hJ2.2.1 hlen.symm, fun s' hs' => by rw [hfp.1 181 (by decide) (by decide)]; exact hJ2.2.2 s' hs'⟩)
            rw [hcs] at this
            exact this
          · unfold isC
            rw [hk]
            exact decide_eq_false c2
      · rw [show ((s : Int) + 1).toNat = s + 1 by omega, hS1.2.1 _ (by omega), hb1]
        omega
  have outer : ∀ s, s ≤ nS G → ∀ m1, J s (bg G s) m1 → hd_X9_laysPassings_8 E (k + 2) (cp G (bg G s) : Int) (s : Int) m1 γ t Q := by
    refine upN ?_ ?_
    · intro m1 hJ
      have hS1 := hS0.fr hJ.1 (by decide) (by decide) (by decide) (by decide) (by decide) (by decide)
      have h16 := hS1.2.2
      have hcp := cp_le (G := G) (bg G (nS G))
      have hff : fr (181 :: LPs) [17, 18, 19] m0 (up m1 181 (up (m1 181) ((m1 158 16).toNat) (cp G (bg G (nS G)) : Int))) := hJ.1.upa 181 (by decide) (by decide)
      refine vc_X9_laysPassings_8 (by omega) (by omega) ⟨fun c => absurd c (by omega), fun c => ⟨by omega, ?_⟩⟩
      refine hQ _ ((hf0.mono (by decide) (by decide)).trans (hff.mono (by decide) (by decide))) (hR0.fr hff (by decide) (by decide) (by decide) (by decide) (by decide) (by decide) (by decide)) (hS0.fr hff (by decide) (by decide) (by decide) (by decide) (by decide) (by decide)) (RPm_RP hG (m0 := m0) ?_ (fun s hs => ?_))
      · have h1 := hJ.2.1
        rw [bg_last hG, cp_all hG, List.take_of_length_le (by unfold nP; exact Nat.le_refl _)] at h1
        exact h1.fr (l := [181]) (fl := []) (fr.refl.upa 181 (by decide) (by decide)) (by decide)
      · rw [up_self, h16, Int.toNat_natCast]
        unfold up
        split
        · next h => rw [h, pB_cp hG (Nat.le_refl _)]
        · exact hJ.2.2 s (by omega)
    · intro s hs ih m1 hJ
      have hS1 := hS0.fr hJ.1 (by decide) (by decide) (by decide) (by decide) (by decide) (by decide)
      have h16 := hS1.2.2
      have hcp := cp_le (G := G) (bg G s)
      refine vc_X9_laysPassings_8 (by omega) (by omega) ⟨fun c => ⟨by omega, by omega, ?_⟩, fun c => absurd c (by omega)⟩
      rw [Int.toNat_natCast, hS1.2.1 s (by omega), tB_bg (by omega) hG]
      refine inner s hs (fun m2 hJ2 => ?_) (bg G s) (Nat.le_of_lt (bg_lt hG hs)) (Nat.le_refl _) _ ⟨hJ.1.upa 181 (by decide) (by decide), hJ.2.1.fr (l := [181]) (fl := []) (fr.refl.upa 181 (by decide) (by decide)) (by decide), fun s' hs' => ?_⟩
      · have := ih m2 hJ2
        rw [show ((s + 1 : Nat) : Int) = (s : Int) + 1 by omega] at this
        exact this
      · rw [up_self]
        unfold up
        split
        · next h => rw [h, pB_cp hG (by omega)]
        · exact hJ.2.2 s' (by omega)
  have h0 := outer 0 (Nat.zero_le _) m0 ⟨fr.refl, ?_, fun s' hs' => absurd hs' (Nat.not_lt_zero _)⟩
  · rw [bg_0 hG] at h0
    exact h0
  · rw [bg_0 hG]
    exact ⟨⟨rfl, rfl, rfl, rfl⟩, ⟨rfl, rfl, rfl, rfl⟩, rfl, rfl⟩
end R5
