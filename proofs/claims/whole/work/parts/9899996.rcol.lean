/-! ===== colours: the reference ===== -/
/-- the first passing under of a strand -/
theorem un_first {G : GV} {s : Nat} (h : un G s ≠ 0) : ∃ f, f < pn G s ∧ pOv G (pf G s + f) = 0 ∧ cu G s f = 0 := by
  have key : ∀ n, cu G s n ≠ 0 → ∃ f, f < n ∧ pOv G (pf G s + f) = 0 ∧ cu G s f = 0 := by
    intro n
    induction n with
    | zero => intro h; exact absurd (cu_0 G s) h
    | succ n ih =>
      intro h
      by_cases c : cu G s n = 0
      · rw [cu_s, c] at h
        by_cases d : pOv G (pf G s + n) = 0
        · exact ⟨n, by omega, d, c⟩
        · rw [if_neg d] at h
          exact absurd rfl h
      · obtain ⟨f, f1, f2⟩ := ih c
        exact ⟨f, by omega, f2⟩
  exact key _ h
def AQ (m : MM) (G : GV) (n : Nat) : Prop := ∀ s, s < n → ∀ i, i < pn G s → m 190 (pf G s + i) = (lR G s (cu G s (i + 1)) : Int)
section RC
variable {E : am_E} {k : Nat} {m : MM} {γ : GM} {t : am_H} {a : AST} {Q : Int → MM → GM → am_H → Prop}
theorem S_laysArcs {G : GV} (hG : RG m G) (hS : RS m G) (hP : RP m G) (hQ : ∀ m1, fr [190] [] m m1 → AQ m1 G (nS G) → Q (ba G (nS G) : Int) m1 γ t) : TI E (k + 1) 278 [.ref 158] m γ t Q := by
  have hv := hG.2.2.1
  have h64 := nS64 hv
  have hP48 := nP_le hv
  have h40 := ba_40 hv
  refine vc_X9_laysArcs ?_
  refine upN (n := nS G) (P := fun s => ∀ m1 : MM, fr [190] [] m m1 → AQ m1 G s → hd_X9_laysArcs_4 E k (ba G s : Int) (s : Int) m1 γ t Q) (fun m1 f1 A1 => ?_) (fun s hs ih => fun m1 f1 A1 => ?_) 0 (Nat.zero_le _) m fr.refl (fun s hs => absurd hs (Nat.not_lt_zero s))
  · exact vc_X9_laysArcs_4 (by omega) (by omega) ⟨fun z => absurd z (by rw [f1.2 16 (by decide), hS.2.2]; omega), fun _ => hQ m1 f1 A1⟩
  have hb := pf_pn hv hs
  have hpfs := pf_s hv hs
  have hbs := ba_mono (G := G) (show s + 1 ≤ nS G by omega)
  have hbe : ba G (s + 1) = ba G s + aU G s := rfl
  have hU := aU_eq G s
  have cuP : ∀ i, i ≤ pn G s → cu G s i ≤ un G s := fun i hi => cu_mono hi
  have hP1 : ∀ m', fr [190] [] m m' → RP m' G := fun m' hf => hP.fr hf (by decide)
  have r181 : ∀ m', fr [190] [] m m' → m' 181 s = (pf G s : Int) := fun m' hf => by
    rw [(hP1 m' hf).2.2 s (by omega), pB_cp hv (by omega)]
    rfl
  have r180 : ∀ m', fr [190] [] m m' → ∀ i, i < pn G s → m' 180 (pf G s + i) = pOv G (pf G s + i) := fun m' hf i hi => ((hP1 m' hf).2.1 (pf G s + i) (by omega)).2
  have keep : ∀ (m' : MM) (F : Nat → Int), AQ m1 G s → (∀ j, j < pf G s → F j = m1 190 j) → AQ (up m' 190 F) G s := fun m' F hA hF s' hs' i hi => by
    have h1 := pf_mono hv (show s' + 1 ≤ s by omega) (by omega)
    have h2 := pf_s hv (show s' < nS G by omega)
    rw [up_self, hF _ (by omega)]
    exact hA s' hs' i hi
  refine vc_X9_laysArcs_4 (by omega) (by omega) ⟨fun _ => S_passings s hv (hP1 m1 f1) rfl hs ?_, fun z => absurd (by rw [f1.2 16 (by decide), hS.2.2]; omega) z⟩
  -- the end of a strand
  have done : ∀ (F : Nat → Int) (v : Int), v = (ba G (s + 1) : Int) → (∀ j, j < pf G s → F j = m1 190 j) → (∀ i, i < pn G s → F (pf G s + i) = (lR G s (cu G s (i + 1)) : Int)) → hd_X9_laysArcs_4 E k v ((s : Int) + 1) (up m1 190 F) γ t Q := fun F v hv2 hF1 hF2 => by
    rw [hv2]
    refine ih (up m1 190 F) (f1.upa 190 (by decide) (by decide)) (fun s' hs' i hi => ?_)
    by_cases q : s' = s
    · subst q
      rw [up_self]
      exact hF2 i hi
    · exact keep m1 F A1 hF1 s' (by omega) i hi
  by_cases hu : un G s = 0
  · have noU : ∀ i, i < pn G s → pOv G (pf G s + i) ≠ 0 ∧ cu G s (i + 1) = 0 := fun i hi => by
      have h1 := cuP (i + 1) (by omega)
      have h2 := cu_s G s i
      refine ⟨fun q => ?_, by omega⟩
      rw [if_pos q] at h2
      omega
    have hlab : ∀ i, i < pn G s → (lR G s (cu G s (i + 1)) : Int) = (ba G s : Int) := fun i hi => by
      unfold lR
      rw [(noU i hi).2, if_pos rfl]
      omega
    have w := upN (n := pn G s) (P := fun d => hd_X9_laysArcs_26 E k (ba G s : Int) (s : Int) (pn G s : Int) (-1) ((pn G s : Int) - 1 - (d : Int)) m1 γ t Q) ?_ (fun d hd ih2 => ?_) 0 (Nat.zero_le _)
    · rw [show (pn G s : Int) - 1 - ((0 : Nat) : Int) = (pn G s : Int) - 1 by omega] at w
      exact w
    · refine vc_X9_laysArcs_26 (by omega) (by omega) (by omega) (by omega) (by omega) ⟨fun _ => ⟨fun _ => ?_, fun z => absurd rfl z⟩, fun z => absurd (by omega) z⟩
      have w := upN (n := pn G s) (P := fun i => ∀ F : Nat → Int, (∀ j, j < pf G s → F j = m1 190 j) → (∀ i', i' < i → F (pf G s + i') = (ba G s : Int)) → hd_X9_laysArcs_72 E k (ba G s : Int) (s : Int) (pn G s : Int) (i : Int) (up m1 190 F) γ t Q) (fun F g1 g2 => ?_) (fun i hi ih2 => fun F g1 g2 => ?_) 0 (Nat.zero_le _) (m1 190) (fun _ _ => rfl) (fun i' hi' => absurd hi' (Nat.not_lt_zero i'))
      · rw [up_id] at w
        exact w
      · exact vc_X9_laysArcs_72 (by omega) (by omega) (by omega) (by omega) ⟨fun z => absurd z (by omega), fun _ => done F _ (by omega) g1 (fun i hi => by rw [g2 i hi, hlab i hi])⟩
      · refine vc_X9_laysArcs_72 (by omega) (by omega) (by omega) (by omega) ⟨fun _ => ⟨by omega, ?_⟩, fun z => absurd (by omega) z⟩
        rw [Int.toNat_natCast, up_ne (show 181 ≠ 190 by decide), r181 m1 f1, up_self, up_up, show ((pf G s : Int) + (i : Int)).toNat = pf G s + i by omega]
        refine ⟨by omega, ih2 _ (fun j hj => by rw [up_ne (by omega)]; exact g1 j hj) (fun i' hi' => ?_)⟩
        by_cases q : i' = i
        · rw [q, up_self]
        · rw [up_ne (by omega)]
          exact g2 i' (by omega)
    · obtain ⟨n1, n2⟩ := noU (pn G s - 1 - d) (by omega)
      refine vc_X9_laysArcs_26 (by omega) (by omega) (by omega) (by omega) (by omega) ⟨fun z => absurd z (by omega), fun _ => ⟨by omega, ?_⟩⟩
      rw [Int.toNat_natCast, r181 m1 f1, show ((pf G s : Int) + ((pn G s : Int) - 1 - (d : Int))).toNat = pf G s + (pn G s - 1 - d) by omega, r180 m1 f1 _ (by omega)]
      refine ⟨by omega, fun z => absurd z n1, fun _ => ?_⟩
      rw [show (pn G s : Int) - 1 - (d : Int) + -1 = (pn G s : Int) - 1 - ((d + 1 : Nat) : Int) by omega]
      exact ih2
  · obtain ⟨f, f1', f2', f3'⟩ := un_first hu
    -- looking for the first
    have w := upN (n := pn G s) (P := fun d => ∀ z : Int, -1 ≤ z → z < pn G s → (pn G s - d ≤ f → z = (f : Int)) → hd_X9_laysArcs_26 E k (ba G s : Int) (s : Int) (pn G s : Int) z ((pn G s : Int) - 1 - (d : Int)) m1 γ t Q) (fun z z1 z2 z3 => ?_) (fun d hd ih2 => fun z z1 z2 z3 => ?_) 0 (Nat.zero_le _) (-1) (by omega) (by omega) (fun q => absurd q (by omega))
    · rw [show (pn G s : Int) - 1 - ((0 : Nat) : Int) = (pn G s : Int) - 1 by omega] at w
      exact w
    · have hz := z3 (by omega)
      subst hz
      refine vc_X9_laysArcs_26 (by omega) (by omega) (by omega) (by omega) (by omega) ⟨fun _ => ⟨fun z => absurd z (by omega), fun _ => ?_⟩, fun z => absurd (by omega) z⟩
      -- along the strand
      have w := upN (n := pn G s) (P := fun i => ∀ F : Nat → Int, (∀ j, j < pf G s → F j = m1 190 j) → (∀ q, q < pn G s → (f ≤ q ∧ q < f + i) ∨ q + pn G s < f + i → F (pf G s + q) = (lR G s (cu G s (q + 1)) : Int)) → hd_X9_laysArcs_111 E k ((ba G s : Int) - 1 + (if f + i ≤ pn G s then (cu G s (f + i) : Int) else (un G s : Int))) (s : Int) (pn G s : Int) (f : Int) (i : Int) (up m1 190 F) γ t Q) (fun F g1 g2 => ?_) (fun i hi ih2 => fun F g1 g2 => ?_) 0 (Nat.zero_le _) (m1 190) (fun _ _ => rfl) (fun q hq w => absurd w (by omega))
      · rw [up_id, if_pos (by omega), Nat.add_zero, f3'] at w
        rw [show (ba G s : Int) - 1 + ((0 : Nat) : Int) = (ba G s : Int) + -1 by omega] at w
        exact w
      · have e1 : (if f + pn G s ≤ pn G s then (cu G s (f + pn G s) : Int) else (un G s : Int)) = (un G s : Int) := by
          split
          · rw [show f + pn G s = pn G s by omega]; rfl
          · rfl
        rw [e1]
        exact vc_X9_laysArcs_111 (by omega) (by omega) (by omega) (by omega) (by omega) ⟨fun z => absurd z (by omega), fun _ => done F _ (by omega) g1 (fun i hi => g2 i hi (by omega))⟩
      · have hbnd : 0 ≤ (if f + i ≤ pn G s then (cu G s (f + i) : Int) else (un G s : Int)) ∧ (if f + i ≤ pn G s then (cu G s (f + i) : Int) else (un G s : Int)) ≤ (un G s : Int) := by
          split
          · next h => have := cuP (f + i) h; omega
          · omega
        -- where it stands
        have hq : ∃ q, q < pn G s ∧ ((f : Int) + (i : Int)) % (pn G s : Int) = (q : Int) ∧ ((f + i < pn G s ∧ q = f + i) ∨ (pn G s ≤ f + i ∧ q + pn G s = f + i)) := by
          rcases Nat.lt_or_ge (f + i) (pn G s) with c | c
          · exact ⟨f + i, c, by rw [Int.emod_eq_of_lt (by omega) (by omega)]; omega, Or.inl ⟨c, rfl⟩⟩
          · refine ⟨f + i - pn G s, by omega, ?_, Or.inr ⟨c, by omega⟩⟩
            have : (f : Int) + (i : Int) = ((f + i - pn G s : Nat) : Int) + (pn G s : Int) := by omega
            rw [this, Int.add_emod_right, Int.emod_eq_of_lt (by omega) (by omega)]
        obtain ⟨q, q1, q2, q3⟩ := hq
        have hcs := cu_s G s q
        have store : ∀ v : Int, v = (lR G s (cu G s (q + 1)) : Int) → v = (ba G s : Int) - 1 + (if f + (i + 1) ≤ pn G s then (cu G s (f + (i + 1)) : Int) else (un G s : Int)) → hd_X9_laysArcs_111 E k v (s : Int) (pn G s : Int) (f : Int) ((i : Int) + 1) (up m1 190 (up F (pf G s + q) v)) γ t Q := fun v v1 v2 => by
          have := ih2 (up F (pf G s + q) v) (fun j hj => by rw [up_ne (by omega)]; exact g1 j hj) (fun q' hq' w => ?_)
          · rw [← v2] at this
            exact this
          · by_cases e : q' = q
            · rw [e, up_self, v1]
            · rw [up_ne (by omega)]
              exact g2 q' hq' (by omega)
        refine vc_X9_laysArcs_111 (by omega) (by omega) (by omega) (by omega) (by omega) ⟨fun _ => ⟨by omega, by omega, by omega, by omega, ?_⟩, fun z => absurd (by omega) z⟩
        rw [Int.toNat_natCast, up_ne (show 181 ≠ 190 by decide), up_ne (show 180 ≠ 190 by decide), r181 m1 f1, q2, up_self, up_up, up_up, show ((pf G s : Int) + (q : Int)).toNat = pf G s + q by omega, r180 m1 f1 q q1]
        refine ⟨by omega, fun c => ⟨by omega, by omega, ?_⟩, fun c => ⟨by omega, by omega, ?_⟩⟩
        · rw [if_pos c] at hcs
          have hcq := cuP (q + 1) (by omega)
          have e0 : q = f + i := by
            rcases q3 with q3 | q3
            · exact q3.2
            · exfalso
              have h1 := cu_mono (G := G) (s := s) (show q + 1 ≤ f by omega)
              omega
          rw [if_pos (show f + i ≤ pn G s by omega), ← e0]
          refine store _ ?_ ?_
          · unfold lR
            rw [if_neg (by omega)]
            omega
          · rw [if_pos (by omega), show f + (i + 1) = q + 1 by omega]
            omega
        · rw [if_neg c] at hcs
          rw [Int.add_zero]
          refine store _ ?_ ?_
          · rcases q3 with ⟨c2, q3⟩ | ⟨c2, q3⟩
            · have h1 : cu G s (q + 1) ≠ 0 := by
                have h2 := cu_s G s f
                rw [if_pos f2'] at h2
                have h3 := cu_mono (G := G) (s := s) (show f + 1 ≤ q + 1 by omega)
                omega
              unfold lR
              rw [if_pos (by omega), if_neg h1, ← q3]
              omega
            · have h1 : cu G s (q + 1) = 0 := by
                have := cu_mono (G := G) (s := s) (show q + 1 ≤ f by omega)
                omega
              have e2 : (if f + i ≤ pn G s then (cu G s (f + i) : Int) else (un G s : Int)) = (un G s : Int) := by
                split
                · rw [show f + i = pn G s by omega]; rfl
                · rfl
              rw [e2]
              unfold lR
              rw [h1, if_pos rfl]
              omega
          · rcases q3 with ⟨c2, q3⟩ | ⟨c2, q3⟩
            · rw [if_pos (by omega), if_pos (by omega), show f + (i + 1) = q + 1 by omega, hcs, ← q3]
              rfl
            · rw [if_neg (show ¬ f + (i + 1) ≤ pn G s by omega)]
              split
              · rw [show f + i = pn G s by omega]; rfl
              · rfl
    · refine vc_X9_laysArcs_26 (by omega) (by omega) (by omega) (by omega) (by omega) ⟨fun z => absurd z (by omega), fun _ => ⟨by omega, ?_⟩⟩
      rw [Int.toNat_natCast, r181 m1 f1, show ((pf G s : Int) + ((pn G s : Int) - 1 - (d : Int))).toNat = pf G s + (pn G s - 1 - d) by omega, r180 m1 f1 _ (by omega), show (pn G s : Int) - 1 - (d : Int) + -1 = (pn G s : Int) - 1 - ((d + 1 : Nat) : Int) by omega]
      have hlow : pOv G (pf G s + (pn G s - 1 - d)) = 0 → f ≤ pn G s - 1 - d := fun c => by
        have h1 := cu_s G s (pn G s - 1 - d)
        rw [if_pos c] at h1
        rcases Nat.lt_or_ge (pn G s - 1 - d) f with q | q
        · have := cu_mono (G := G) (s := s) (show pn G s - 1 - d + 1 ≤ f by omega)
          omega
        · exact q
      refine ⟨by omega, fun c => ih2 _ (by omega) (by omega) (fun q => ?_), fun c => ih2 z z1 z2 (fun q => z3 ?_)⟩
      · have := hlow c
        omega
      · have : f ≠ pn G s - 1 - d := fun w => c (by rw [← w]; exact f2')
        omega
theorem S_arcAhead {G : GV} {e : Nat} (hv : vG G) (hP : RP m G) (hA : AQ m G (nS G)) (he : e < gn G.1 G.2.1) (hx : crX G e) (hQ : Q (aB (lR G) G e : Int) m γ t) : TI E (k + 1) 279 [.ref 158, .int (iI (uS G e)), .int (iI (uP G e))] m γ t Q := by
  have h64 := nS64 hv
  have hP48 := nP_le hv
  obtain ⟨u1, u2, u3, u4, u5, -⟩ := uI_ok hv he hx
  have hb := pf_pn hv u2
  have hU := aU_eq G (uS G e).toNat
  have e0 : uS G e = (((uS G e).toNat : Nat) : Int) := by omega
  unfold aB at hQ
  generalize (uS G e).toNat = s at *
  have cs := cu_s G s (uI G e)
  rw [if_pos u5] at cs
  have cm : cu G s (uI G e + 1) ≤ un G s := cu_mono (by omega)
  rw [e0, u4]
  refine vc_X9_arcAhead (by omega) (by omega) ⟨by omega, S_passings s hv hP rfl u2 ?_⟩
  rw [Int.toNat_natCast, hP.2.2 s (by omega), pB_cp hv (by omega)]
  show _ ∧ _ ∧ _ ∧ _
  have epf : cp G (bg G s) = pf G s := rfl
  rw [epf]
  have hq : ∃ q, q < pn G s ∧ ((((pf G s + uI G e : Nat) : Int) - (pf G s : Int)) + (pn G s : Int) - 1) % (pn G s : Int) = (q : Int) ∧ lR G s (cu G s (q + 1)) = lR G s (cu G s (uI G e)) := by
    rcases Nat.eq_zero_or_pos (uI G e) with c | c
    · refine ⟨pn G s - 1, by omega, ?_, ?_⟩
      · rw [c, Int.emod_eq_of_lt (by omega) (by omega)]
        omega
      · rw [show pn G s - 1 + 1 = pn G s by omega, c, cu_0]
        have : cu G s (pn G s) = un G s := rfl
        rw [this]
        unfold lR
        rw [if_neg (by omega), if_pos rfl]
        omega
    · refine ⟨uI G e - 1, by omega, ?_, by rw [show uI G e - 1 + 1 = uI G e by omega]⟩
      have : ((pf G s + uI G e : Nat) : Int) - (pf G s : Int) + (pn G s : Int) - 1 = ((uI G e - 1 : Nat) : Int) + (pn G s : Int) := by omega
      rw [this, Int.add_emod_right, Int.emod_eq_of_lt (by omega) (by omega)]
  obtain ⟨q, q1, q2, q3⟩ := hq
  rw [q2, show ((pf G s : Int) + (q : Int)).toNat = pf G s + q by omega, hA s u2 q q1, q3]
  exact ⟨by omega, by omega, by omega, by omega, hQ⟩
theorem S_isPrimeR {x : Int} (hx : rJ x) (q1 : 0 ≤ x → pr6 x.toNat → Q 1 m γ t) (q0 : ¬ (0 ≤ x ∧ pr6 x.toNat) → Q 0 m γ t) : TI E k 282 [.int (iI x)] m γ t Q := by
  unfold pr6 at *
  exact vc_X9_isPrime hx ⟨fun c => q1 (by omega) (by omega), fun c => ⟨fun c => q1 (by omega) (by omega), fun c => ⟨fun c => q1 (by omega) (by omega), fun c => ⟨fun c => q1 (by omega) (by omega), fun c => ⟨fun c => q1 (by omega) (by omega), fun c => ⟨fun c => q1 (by omega) (by omega), fun c => q0 (by omega)⟩⟩⟩⟩⟩⟩
theorem R_colours {s x : Int} (hR : RI m a) (hs : rJ s) (hx : rJ x) (hQ : ∀ m1, fr SL SF m m1 → Q (v_colours a s x) m1 γ t) : TI E (k + 6) 283 [.ref 158, .int (iI s), .int (iI x)] m γ t Q := by
  unfold v_colours at hQ
  have h0 : ¬ (isG a.1 s ∧ 0 ≤ x ∧ pr6 x.toNat) → ∀ m1, fr SL SF m m1 → Q (-2) m1 γ t := fun h m1 hf => by
    have := hQ m1 hf
    rw [ift_f h] at this
    exact this
  refine vc_X9_colours hs hx (S_isPrimeR hx (fun c2 c3 => b1 ?_) (fun c2 => b0 (h0 (fun h => c2 h.2) m fr.refl)))
  refine S_isLaid hR hs (fun c => b0 (h0 (fun h => c h.1) m fr.refl)) (fun m1 c hf hG hS hP => b1 ?_)
  have hok : isG a.1 s ∧ 0 ≤ x ∧ pr6 x.toNat := ⟨c, c2, c3⟩
  have hQ2 : ∀ m1, fr SL SF m m1 → Q ((ba (a.1 s.toNat) (nS (a.1 s.toNat)) : Int) - (rkV x.toNat (a.1 s.toNat) : Int)) m1 γ t := fun m1 hf => by
    have := hQ m1 hf
    rw [ift_t hok] at this
    exact this
  clear hQ h0
  generalize a.1 s.toNat = G at *
  have hxp : x = ((x.toNat : Nat) : Int) := by omega
  generalize x.toNat = p at *
  subst hxp
  have hp0 : 0 < p ∧ p < 14 := by unfold pr6 at c3; omega
  have hle := hG.le
  have hv := hG.2.2.1
  have h40 := ba_40 hv
  have hP48 := nP_le hv
  have ix : ∀ i j : Nat, ((48 * (i : Int)) + (j : Int)).toNat = 48 * i + j := fun i j => by omega
  refine S_laysArcs hG hS hP (fun m2 f2 A2 => ?_)
  have f2' : fr SL SF m m2 := hf.trans (f2.mono (by decide) (by decide))
  have hG2 := hG.fr f2 (by decide) (by decide) (by decide) (by decide) (by decide) (by decide) (by decide)
  have hP2 := hP.fr f2 (by decide)
  have RGm : ∀ m3, fr [191] [] m2 m3 → RG m3 G := fun m3 h3 => hG2.fr h3 (by decide) (by decide) (by decide) (by decide) (by decide) (by decide) (by decide)
  have RPm : ∀ m3, fr [191] [] m2 m3 → RP m3 G := fun m3 h3 => hP2.fr h3 (by decide)
  have AQm : ∀ m3, fr [191] [] m2 m3 → AQ m3 G (nS G) := fun m3 h3 s' hs' i hi => by
    rw [h3.1 190 (by decide) (by decide)]
    exact A2 s' hs' i hi
  -- an arc is below 40
  have arcs : ∀ e, e < gn G.1 G.2.1 → crX G e → aO (lR G) G e < 40 ∧ aB (lR G) G e < 40 ∧ aH (lR G) G e < 40 := fun e he hx => by
    obtain ⟨l1, l2, l3, l4, l5, l6⟩ := arc_lt hv he hx
    obtain ⟨t1, -⟩ := tau_NB G (nS G)
    rw [l4, l5, l6]
    have := t1.1 _ l1
    have := t1.1 _ l2
    have := t1.1 _ l3
    omega
  refine upN (n := gn G.1 G.2.1) (P := fun e => ∀ m3 : MM, fr [191] [] m2 m3 → (∀ e', e' < e → crX G e' → ∀ j, j < 48 → m3 191 (48 * xrk G e' + j) = mx (aO (lR G) G e') (aB (lR G) G e') (aH (lR G) G e') j % (p : Int)) → hd_X9_colours_29 E (k + 5) s (p : Int) (p : Int) (ba G (nS G) : Int) (xrk G e : Int) (e : Int) m3 γ t Q) (fun m3 f3 r3 => ?_) (fun e he ih => fun m3 f3 r3 => ?_) 0 (Nat.zero_le _) m2 fr.refl (fun e' he' => absurd he' (Nat.not_lt_zero e'))
  · have hxg := xrk_le (G := G) (gn G.1 G.2.1)
    refine vc_X9_colours_29 hs (by omega) (by omega) (by omega) (by omega) (by omega) ⟨fun z => absurd z (by rw [(RGm m3 f3).1.2.2.1]; omega), fun _ => ?_⟩
    refine S_rankR (N := NS p G (tau G (nS G))) (xrk G (gn G.1 G.2.1)) c3 (by omega) (fun r j hr hj => ?_) ?_ (fun f m4 hf4 hN f4 => ⟨by omega, ?_⟩)
    · obtain ⟨e, e1, e2, e3⟩ := xrk_ex (gn G.1 G.2.1) hr
      rw [← e3, r3 e e1 e2 j hj]
      exact ⟨Int.emod_nonneg _ (by omega), Int.emod_lt_of_pos _ (by omega)⟩
    · refine CNT_NS (fun e he hx => ?_) (fun e he hx j hj => ?_)
      · obtain ⟨l1, l2, l3, l4, l5, l6⟩ := arc_lt hv he hx
        obtain ⟨a1, a2, a3⟩ := arcs e he hx
        rw [← l4, ← l5, ← l6]
        exact ⟨by omega, by omega, by omega⟩
      · obtain ⟨l1, l2, l3, l4, l5, l6⟩ := arc_lt hv he hx
        show m3 191 (48 * xrk G e + j) % (p : Int) = _
        rw [r3 e he hx j hj, Int.emod_emod, l4, l5, l6]
    · rw [NS_tau hv] at hN
      have := hQ2 m4 (f2'.trans ((f3.mono (by decide) (by decide)).trans (f4.mono (by decide) (by decide))))
      rw [rkV_eq c3 hN] at this
      exact this
  · have hxe := xrk_le (G := G) e
    have hk := hv.2 e he
    refine vc_X9_colours_29 hs (by omega) (by omega) (by omega) (by omega) (by omega) ⟨fun _ => ⟨by omega, ?_⟩, fun z => absurd (by rw [(RGm m3 f3).1.2.2.1]; omega) z⟩
    rw [Int.toNat_natCast, (RGm m3 f3).2.1 e he]
    refine S_isCross (by omega) (fun hx => b1 ?_) (fun hx => b0 ?_)
    · have hx : crX G e := hx
      have hxs : xrk G (e + 1) = xrk G e + 1 := by rw [xrk_succ, if_pos (show G.2.2 e = 0 ∨ G.2.2 e = 1 from hx)]
      obtain ⟨a1, a2, a3⟩ := arcs e he hx
      obtain ⟨o1, o2, o3, o4, -⟩ := oI_ok hv he hx
      obtain ⟨u1, u2, u3, u4, -⟩ := uI_ok hv he hx
      have hbo := pf_pn hv o2
      have hbu := pf_pn hv u2
      generalize hr : xrk G e = r at *
      refine upN (n := 48) (P := fun j => ∀ m4 : MM, fr [191] [] m2 m4 → (∀ x', x' < 48 * r → m4 191 x' = m3 191 x') → (∀ i, i < j → m4 191 (48 * r + i) = 0) → hd_X9_colours_57 E (k + 5) s (p : Int) (p : Int) (ba G (nS G) : Int) (r : Int) (e : Int) (j : Int) m4 γ t Q) (fun m4 f4 k4 z4 => ?_) (fun j hj ih2 => fun m4 f4 k4 z4 => ?_) 0 (Nat.zero_le _) m3 f3 (fun _ _ => rfl) (fun i hi => absurd hi (Nat.not_lt_zero i))
      · obtain ⟨-, p2, p3, p4, -⟩ := (RPm m4 f4).1 e he hx
        have qO : m4 190 (pf G (oS G e).toNat + oI G e) = (aO (lR G) G e : Int) := AQm m4 f4 _ o2 _ o3
        have qU : m4 190 (pf G (uS G e).toNat + uI G e) = (aH (lR G) G e : Int) := AQm m4 f4 _ u2 _ u3
        refine vc_X9_colours_57 hs (by omega) (by omega) (by omega) (by omega) (by omega) (by omega) ⟨fun z => absurd z (by omega), fun _ => ⟨by omega, ?_⟩⟩
        simp only [Int.toNat_natCast]
        rw [p2, p3, p4, o4, u4]
        simp only [Int.toNat_natCast]
        rw [qO, qU, ix, ix, up_up]
        generalize hF : m4 191 = F at *
        generalize hF1 : up F (48 * r + aO (lR G) G e) (F (48 * r + aO (lR G) G e) + 2) = F1
        have g1 : ∀ i, i < 48 → F1 (48 * r + i) = 2 * io i (aO (lR G) G e) := fun i hi => by
          rw [← hF1]
          unfold io
          by_cases q : i = aO (lR G) G e
          · rw [q, up_self, z4 _ (by omega), if_pos rfl]; rfl
          · rw [up_ne (by omega), z4 i hi, if_neg q]; rfl
        generalize hF2 : up F1 (48 * r + aH (lR G) G e) (F1 (48 * r + aH (lR G) G e) - 1) = F2
        have g2 : ∀ i, i < 48 → F2 (48 * r + i) = 2 * io i (aO (lR G) G e) - io i (aH (lR G) G e) := fun i hi => by
          rw [← hF2]
          by_cases q : i = aH (lR G) G e
          · rw [q, up_self, g1 _ (by omega), show io (aH (lR G) G e) (aH (lR G) G e) = 1 from if_pos rfl]
          · rw [up_ne (by omega), g1 i hi, show io i (aH (lR G) G e) = 0 from if_neg q, Int.sub_zero]
        have i1 := io_b (aH (lR G) G e) (aO (lR G) G e)
        have i2 := io_b (aB (lR G) G e) (aO (lR G) G e)
        have i3 := io_b (aB (lR G) G e) (aH (lR G) G e)
        have z1 := z4 (aO (lR G) G e) (by omega)
        have z2 := g1 (aH (lR G) G e) (by omega)
        have z3 := g2 (aB (lR G) G e) (by omega)
        refine ⟨by omega, by omega, by omega, by omega, by omega, by omega, by omega, by omega, by omega, by omega, by omega, ?_⟩
        rw [← u4]
        have f5 : fr [191] [] m2 (up m4 191 F2) := f4.upa 191 (by decide) (by decide)
        refine S_arcAhead hv (RPm _ f5) (AQm _ f5) he hx ?_
        rw [ix, up_self, up_up]
        refine ⟨by omega, by omega, by omega, ?_⟩
        generalize hF3 : up F2 (48 * r + aB (lR G) G e) (F2 (48 * r + aB (lR G) G e) - 1) = F3
        have g3 : ∀ i, i < 48 → F3 (48 * r + i) = mx (aO (lR G) G e) (aB (lR G) G e) (aH (lR G) G e) i := fun i hi => by
          rw [← hF3]
          unfold mx
          by_cases q : i = aB (lR G) G e
          · rw [q, up_self, g2 _ (by omega), show io (aB (lR G) G e) (aB (lR G) G e) = 1 from if_pos rfl]; omega
          · rw [up_ne (by omega), g2 i hi, show io i (aB (lR G) G e) = 0 from if_neg q]; omega
        have g4 : ∀ x', x' < 48 * r → F3 x' = m3 191 x' := fun x' hx' => by
          rw [← hF3, up_ne (by omega), ← hF2, up_ne (by omega), ← hF1, up_ne (by omega)]
          exact k4 x' hx'
        refine upN (n := 48) (P := fun j => ∀ m6 : MM, fr [191] [] m2 m6 → (∀ x', x' < 48 * r → m6 191 x' = m3 191 x') → (∀ i, i < 48 → m6 191 (48 * r + i) = if i < j then mx (aO (lR G) G e) (aB (lR G) G e) (aH (lR G) G e) i % (p : Int) else mx (aO (lR G) G e) (aB (lR G) G e) (aH (lR G) G e) i) → hd_X9_colours_174 E (k + 5) s (p : Int) (p : Int) (ba G (nS G) : Int) (r : Int) (e : Int) (j : Int) m6 γ t Q) (fun m6 f6 k6 z6 => ?_) (fun j hj ih2 => fun m6 f6 k6 z6 => ?_) 0 (Nat.zero_le _) _ (f4.upa 191 (by decide) (by decide)) (fun x' hx' => by rw [up_self]; exact g4 x' hx') (fun i hi => by rw [up_self, if_neg (Nat.not_lt_zero i)]; exact g3 i hi)
        · refine vc_X9_colours_174 hs (by omega) (by omega) (by omega) (by omega) (by omega) (by omega) ⟨fun z => absurd z (by omega), fun _ => ?_⟩
          have := ih m6 f6 (fun e' he' hx' i hi => ?_)
          · rw [hxs] at this
            exact this
          · by_cases q : e' = e
            · rw [q, hr, z6 i hi, if_pos hi]
            · have hlt := xrk_cr hx' (show e' < e by omega)
              rw [k6 _ (by omega)]
              exact r3 e' (by omega) hx' i hi
        · have h6 := z6 j hj
          rw [if_neg (Nat.lt_irrefl j)] at h6
          have i4 := io_b j (aO (lR G) G e)
          have i5 := io_b j (aB (lR G) G e)
          have i6 := io_b j (aH (lR G) G e)
          have hmx : mx (aO (lR G) G e) (aB (lR G) G e) (aH (lR G) G e) j = 2 * io j (aO (lR G) G e) - io j (aB (lR G) G e) - io j (aH (lR G) G e) := rfl
          refine vc_X9_colours_174 hs (by omega) (by omega) (by omega) (by omega) (by omega) (by omega) ⟨fun _ => ⟨by omega, ?_⟩, fun z => absurd (by omega) z⟩
          rw [ix, h6]
          refine S_leftR c3 (by omega) (fun hr5 => ⟨by omega, ih2 _ (f6.upa 191 (by decide) (by decide)) (fun x' hx' => by rw [up_self, up_ne (by omega)]; exact k6 x' hx') (fun i hi => ?_)⟩)
          rw [up_self]
          by_cases q : i = j
          · rw [q, up_self, if_pos (by omega)]
          · rw [up_ne (by omega), z6 i hi]
            by_cases q2 : i < j
            · rw [if_pos q2, if_pos (by omega)]
            · rw [if_neg q2, if_neg (by omega)]
      · refine vc_X9_colours_57 hs (by omega) (by omega) (by omega) (by omega) (by omega) (by omega) ⟨fun _ => ⟨by omega, ?_⟩, fun z => absurd (by omega) z⟩
        rw [ix]
        refine ih2 _ (f4.upa 191 (by decide) (by decide)) (fun x' hx' => by rw [up_self, up_ne (by omega)]; exact k4 x' hx') (fun i hi => ?_)
        rw [up_self]
        by_cases q : i = j
        · rw [q, up_self]
        · rw [up_ne (by omega)]
          exact z4 i (by omega)
    · have := ih m3 f3 (fun e' he' hx' => r3 e' (by
        have : e' ≠ e := fun q => hx (q ▸ hx')
        omega) hx')
      rw [xrk_succ, if_neg (show ¬ (G.2.2 e = 0 ∨ G.2.2 e = 1) from hx)] at this
      exact this
end RC
