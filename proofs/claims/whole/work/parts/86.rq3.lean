/-! ===== the reference: interlaced, visits, painted ===== -/
theorem sumN_4 (f : Nat → Int) : ∀ n, sumN f (4 * n) = sumN (fun i => sumN (fun j => f (4 * i + j)) 4) n
  | 0 => rfl
  | n + 1 => by
    show sumN f (4 * n + 4) = _
    simp only [sumN]
    rw [sumN_4 f n]
    simp only [sumN, Nat.add_zero]
    omega
theorem btw_t {G : GV} {e : Nat} {p : Int} (h1 : oP G e ≠ p) (h2 : uP G e ≠ p) : btw G e p = true ↔ ((if oP G e ≤ uP G e then oP G e else uP G e) ≤ p ∧ p ≤ (if oP G e ≤ uP G e then uP G e else oP G e)) := by
  unfold btw
  by_cases c1 : oP G e < p
  · by_cases c2 : uP G e < p
    · rw [decide_eq_true c1, decide_eq_true c2]
      simp
      split <;> omega
    · rw [decide_eq_true c1, decide_eq_false c2]
      simp
      split <;> omega
  · by_cases c2 : uP G e < p
    · rw [decide_eq_false c1, decide_eq_true c2]
      simp
      split <;> omega
    · rw [decide_eq_false c1, decide_eq_false c2]
      simp
      split <;> omega
theorem pas_ne {G : GV} (hG : vG G) {e f : Nat} (he : e < gn G.1 G.2.1) (hf : f < gn G.1 G.2.1) (xe : crX G e) (xf : crX G f) (hne : e ≠ f) : oP G e ≠ oP G f ∧ oP G e ≠ uP G f ∧ uP G e ≠ oP G f ∧ uP G e ≠ uP G f := by
  obtain ⟨y1, hy1, -, e1, p1, -⟩ := xo hG he xe
  obtain ⟨y2, hy2, -, e2, p2, -⟩ := xu hG he xe
  obtain ⟨z1, hz1, -, f1, q1, -⟩ := xo hG hf xf
  obtain ⟨z2, hz2, -, f2, q2, -⟩ := xu hG hf xf
  have key : ∀ y z : Nat × Nat × Nat × Bool, y ∈ (aG G).2.1 → z ∈ (aG G).2.1 → pE G y.2.2 = e → pE G z.2.2 = f → (y.1 : Int) ≠ (z.1 : Int) := by
    intro y z hy hz ey ez h
    have h1 : y.1 = z.1 := by omega
    have a1 := (pas_idx hy).1
    have a2 := (pas_idx hz).1
    rw [h1, a2] at a1
    have := Option.some.inj a1
    rw [this] at ez
    exact hne (ey.symm.trans ez)
  rw [p1, p2, q1, q2]
  exact ⟨key _ _ hy1 hz1 e1 f1, key _ _ hy1 hz2 e1 f2, key _ _ hy2 hz1 e2 f1, key _ _ hy2 hz2 e2 f2⟩
section R8
variable {E : am_E} {k : Nat} {m : MM} {γ : GM} {t : am_H} {a : AST} {Q : Int → MM → GM → am_H → Prop} {G : GV}
theorem S_min {x y : Int} (hx : rJ x) (hy : rJ y) (hQ : Q (if x ≤ y then x else y) m γ t) : TI E k 312 [.int (iI x), .int (iI y)] m γ t Q := by
  refine vc_J9_min_7cf53 hx hy ⟨fun c => ?_, fun c => ?_⟩
  · rw [if_pos (by omega)] at hQ
    exact hQ
  · rw [if_neg (by omega)] at hQ
    exact hQ
theorem S_max {x y : Int} (hx : rJ x) (hy : rJ y) (hQ : Q (if x ≤ y then y else x) m γ t) : TI E k 311 [.int (iI x), .int (iI y)] m γ t Q := by
  refine vc_J9_max_7cf53 hx hy ⟨fun c => ?_, fun c => ?_⟩
  · rw [if_pos (by omega)] at hQ
    exact hQ
  · split at hQ
    · rw [show x = y by omega]
      exact hQ
    · exact hQ
theorem own_iff (hG : vG G) {e : Nat} (he : e < gn G.1 G.2.1) : own G e ≠ -1 ↔ crX G e ∧ oS G e = uS G e := by
  unfold own
  by_cases hx : crX G e
  · obtain ⟨y, hy, -, -, h1, h2, -⟩ := xo hG he hx
    split
    · next h => exact ⟨fun _ => ⟨hx, h⟩, fun _ => by omega⟩
    · next h => exact ⟨fun q => absurd rfl q, fun q => absurd q.2 h⟩
  · obtain ⟨h1, h2, h3, h4⟩ := xn hG hx
    rw [h3, h4, if_pos rfl]
    exact ⟨fun q => absurd rfl q, fun q => absurd q.1 hx⟩
theorem S_isOwn {z : Int} (e : Nat) (hG : RG m G) (hP : RP m G) (hz : z = (e : Int)) (he : e < gn G.1 G.2.1) (q1 : crX G e ∧ oS G e = uS G e → Q 1 m γ t) (q0 : ¬ (crX G e ∧ oS G e = uS G e) → Q 0 m γ t) : TI E (k + 1) 254 [.ref 158, .int (iI z)] m γ t Q := by
  have hle := hG.le
  have hk := hG.2.2.1.2 e he
  subst hz
  refine vc_X9_isOwn (by omega) ⟨by omega, ?_⟩
  rw [Int.toNat_natCast, hG.2.1 e he]
  refine S_isCross (by omega) (fun c => b1 ⟨by omega, by omega, ?_⟩) (fun c => b0 (q0 (fun h => c h.1)))
  rw [(hP.1 e he c).1, (hP.1 e he c).2.1]
  exact ⟨fun c2 => q1 ⟨c, c2⟩, fun c2 => q0 (fun h => c2 h.2)⟩
theorem S_firstPass {z : Int} (e : Nat) (hG : RG m G) (hP : RP m G) (hz : z = (e : Int)) (he : e < gn G.1 G.2.1) (hx : crX G e) (hQ : Q (if oP G e ≤ uP G e then oP G e else uP G e) m γ t) : TI E (k + 1) 255 [.ref 158, .int (iI z)] m γ t Q := by
  have hle := hG.le
  have hr := oP_rg hG.2.2.1 he
  subst hz
  refine vc_X9_firstPass (by omega) ⟨by omega, by omega, ?_⟩
  rw [Int.toNat_natCast, (hP.1 e he hx).2.2.1, (hP.1 e he hx).2.2.2.1]
  exact S_min (by omega) (by omega) hQ
theorem S_lastPass {z : Int} (e : Nat) (hG : RG m G) (hP : RP m G) (hz : z = (e : Int)) (he : e < gn G.1 G.2.1) (hx : crX G e) (hQ : Q (if oP G e ≤ uP G e then uP G e else oP G e) m γ t) : TI E (k + 1) 256 [.ref 158, .int (iI z)] m γ t Q := by
  have hle := hG.le
  have hr := oP_rg hG.2.2.1 he
  subst hz
  refine vc_X9_lastPass (by omega) ⟨by omega, by omega, ?_⟩
  rw [Int.toNat_natCast, (hP.1 e he hx).2.2.1, (hP.1 e he hx).2.2.2.1]
  exact S_max (by omega) (by omega) hQ
theorem R_interlaced {s e f : Int} (hR : RI m a) (hs : rJ s) (he : rJ e) (hf : rJ f) (hQ : ∀ m1, fr SL SF m m1 → Q (v_interlaced a s e f) m1 γ t) : TI E (k + 6) 257 [.ref 158, .int (iI s), .int (iI e), .int (iI f)] m γ t Q := by
  unfold v_interlaced at hQ
  refine vc_X9_interlaced hs he hf (S_isEdge hR hs he (fun m1 c hfr => b0 ?_) (fun m1 c hfr hG hS hP => b1 ?_))
  · have := hQ m1 hfr
    rw [ift_f (fun h => c h.1)] at this
    exact this
  · have hfin := hQ m1 hfr
    have hle := hG.le
    have hv := hG.2.2.1
    have c12 := c.2
    rw [hG.1.2.2.1]
    refine ⟨by omega, S_in (by omega) (by decide) (by omega) (fun c2 => b1 ⟨fun c3 => ?_, fun c3 => ?_⟩) (fun c2 => b0 ?_)⟩
    · rw [ift_t ⟨c, ⟨c.1, by omega⟩⟩, ift_f (fun h => h.1 c3)] at hfin
      exact hfin
    · rw [ift_t ⟨c, ⟨c.1, by omega⟩⟩] at hfin
      have le : e.toNat < gn (a.1 s.toNat).1 (a.1 s.toNat).2.1 := by omega
      have lf : f.toNat < gn (a.1 s.toNat).1 (a.1 s.toNat).2.1 := by omega
      have oe := own_iff hv le
      have of' := own_iff hv lf
      refine S_isOwn e.toNat hG hP (by omega) le (fun c4 => b1 (S_isOwn f.toNat hG hP (by omega) lf (fun c5 => b1 ⟨by omega, by omega, ?_⟩) (fun c5 => b0 ?_))) (fun c4 => b0 ?_)
      · rw [(hP.1 _ le c4.1).1, (hP.1 _ lf c5.1).1]
        have o1 : own (a.1 s.toNat) e.toNat = oS (a.1 s.toNat) e.toNat := by unfold own; rw [if_pos c4.2]
        have o2 : own (a.1 s.toNat) f.toNat = oS (a.1 s.toNat) f.toNat := by unfold own; rw [if_pos c5.2]
        refine ⟨fun c6 => ?_, fun c6 => ?_⟩
        · rw [ift_t ⟨c3, oe.mpr c4, by rw [o1, o2]; exact c6⟩] at hfin
          have hne := pas_ne hv le lf c4.1 c5.1 (by omega)
          have r1 := oP_rg hv le
          have r2 := oP_rg hv lf
          have t1 := btw_t hne.1 hne.2.2.1
          have t2 := btw_t hne.2.1 hne.2.2.2
          have hQ0 : (btw (a.1 s.toNat) e.toNat (oP (a.1 s.toNat) f.toNat) = btw (a.1 s.toNat) e.toNat (uP (a.1 s.toNat) f.toNat)) → Q 0 m1 γ t := fun h => by rw [if_pos h] at hfin; exact hfin
          have hQ1 : (btw (a.1 s.toNat) e.toNat (oP (a.1 s.toNat) f.toNat) ≠ btw (a.1 s.toNat) e.toNat (uP (a.1 s.toNat) f.toNat)) → Q 1 m1 γ t := fun h => by rw [if_neg h] at hfin; exact hfin
          refine S_firstPass f.toNat hG hP (by omega) lf c5.1 (S_firstPass e.toNat hG hP (by omega) le c4.1 (S_lastPass e.toNat hG hP (by omega) le c4.1 ?_))
          refine S_in (by split <;> omega) (by split <;> omega) (by split <;> omega) (fun d1 => ?_) (fun d1 => ?_)
          · refine S_lastPass f.toNat hG hP (by omega) lf c5.1 (S_firstPass e.toNat hG hP (by omega) le c4.1 (S_lastPass e.toNat hG hP (by omega) le c4.1 ?_))
            refine S_in (by split <;> omega) (by split <;> omega) (by split <;> omega) (fun d2 => ⟨fun _ => hQ0 ?_, fun q => absurd rfl q⟩) (fun d2 => ⟨fun q => absurd q (by decide), fun _ => hQ1 ?_⟩)
            · by_cases o : oP (a.1 s.toNat) f.toNat ≤ uP (a.1 s.toNat) f.toNat
              · rw [if_pos o] at d1 d2
                rw [t1.mpr d1, t2.mpr d2]
              · rw [if_neg o] at d1 d2
                rw [t1.mpr d2, t2.mpr d1]
            · by_cases o : oP (a.1 s.toNat) f.toNat ≤ uP (a.1 s.toNat) f.toNat
              · rw [if_pos o] at d1 d2
                intro h
                rw [t1.mpr d1] at h
                exact d2 (t2.mp h.symm)
              · rw [if_neg o] at d1 d2
                intro h
                rw [t2.mpr d1] at h
                exact d2 (t1.mp h)
          · refine S_lastPass f.toNat hG hP (by omega) lf c5.1 (S_firstPass e.toNat hG hP (by omega) le c4.1 (S_lastPass e.toNat hG hP (by omega) le c4.1 ?_))
            refine S_in (by split <;> omega) (by split <;> omega) (by split <;> omega) (fun d2 => ⟨fun q => absurd q (by decide), fun _ => hQ1 ?_⟩) (fun d2 => ⟨fun _ => hQ0 ?_, fun q => absurd rfl q⟩)
            · by_cases o : oP (a.1 s.toNat) f.toNat ≤ uP (a.1 s.toNat) f.toNat
              · rw [if_pos o] at d1 d2
                intro h
                rw [t2.mpr d2] at h
                exact d1 (t1.mp h)
              · rw [if_neg o] at d1 d2
                intro h
                rw [t1.mpr d2] at h
                exact d1 (t2.mp h.symm)
            · have f1 : ∀ b : Bool, ¬ b = true → b = false := fun b h => by cases b <;> simp at h ⊢
              by_cases o : oP (a.1 s.toNat) f.toNat ≤ uP (a.1 s.toNat) f.toNat
              · rw [if_pos o] at d1 d2
                rw [f1 _ (fun h => d1 (t1.mp h)), f1 _ (fun h => d2 (t2.mp h))]
              · rw [if_neg o] at d1 d2
                rw [f1 _ (fun h => d2 (t1.mp h)), f1 _ (fun h => d1 (t2.mp h))]
        · rw [ift_f (fun h => c6 (by rw [← o1, ← o2]; exact h.2.2))] at hfin
          exact hfin
      · rw [ift_f (fun h => c5 (of'.mp (by rw [← h.2.2]; exact h.2.1)))] at hfin
        exact hfin
      · rw [ift_f (fun h => c4 (oe.mp h.2.1))] at hfin
        exact hfin
    · rw [ift_f (fun h => c2 (by have := h.2.2; omega))] at hfin
      exact hfin
theorem R_visits {s x : Int} (hR : RI m a) (hs : rJ s) (hx : rJ x) (hQ : ∀ m1, fr SL SF m m1 → Q (v_visits a s x) m1 γ t) : TI E (k + 6) 258 [.ref 158, .int (iI s), .int (iI x)] m γ t Q := by
  unfold v_visits at hQ
  refine vc_X9_visits hs hx (S_isStrand hR hs hx (fun m1 c1 hf => b0 ?_) (fun m1 c1 c2 hf hG hS hP => b1 ?_))
  · have := hQ m1 hf
    rw [ift_f c1] at this
    exact this
  · have hfin := hQ m1 hf
    have hv := hG.2.2.1
    have h64 := nC_le64 hv
    have hn := nS_nC (a.1 s.toNat)
    have hxs : x.toNat < nS (a.1 s.toNat) := by omega
    have hb := bg_lt hv hxs
    have hb2 := bg_le hv (show x.toNat + 1 ≤ nS (a.1 s.toNat) by omega)
    have hl : ln (a.1 s.toNat) x.toNat = bg (a.1 s.toNat) (x.toNat + 1) - bg (a.1 s.toNat) x.toNat := rfl
    rw [ift_t ⟨c1, c2⟩] at hfin
    rw [hS.2.1 x.toNat (by omega), tB_bg (by omega) hv]
    refine ⟨by omega, ?_⟩
    have loop := upN (n := ln (a.1 s.toNat) x.toNat) (P := fun i => hd_X9_visits_22 E (k + 5) s x x (visF (a.1 s.toNat) x.toNat i) ((bg (a.1 s.toNat) x.toNat + i : Nat) : Int) m1 γ t Q) ?_ ?_ 0 (Nat.zero_le _)
    · exact loop
    · refine vc_X9_visits_22 hs hx hx (visF_rg _ _ _) (by omega) ⟨by omega, ?_⟩
      rw [show (x + 1).toNat = x.toNat + 1 by omega, hS.2.1 (x.toNat + 1) (by omega), tB_bg (by omega) hv]
      exact ⟨fun q => absurd q (by omega), fun _ => hfin⟩
    · intro i hi ih
      have ht := tO_rg hv (show bg (a.1 s.toNat) x.toNat + i < nC (a.1 s.toNat) by omega)
      refine vc_X9_visits_22 hs hx hx (visF_rg _ _ _) (by omega) ⟨by omega, ?_⟩
      rw [show (x + 1).toNat = x.toNat + 1 by omega, hS.2.1 (x.toNat + 1) (by omega), tB_bg (by omega) hv, Int.toNat_natCast, (hS.1 _ (show bg (a.1 s.toNat) x.toNat + i < nC (a.1 s.toNat) by omega)).2.2.2]
      refine ⟨fun _ => ⟨by omega, ht.1, ?_⟩, fun q => absurd (by omega) q⟩
      rw [show ((bg (a.1 s.toNat) x.toNat + i : Nat) : Int) + 1 = ((bg (a.1 s.toNat) x.toNat + (i + 1) : Nat) : Int) by omega]
      exact ih
theorem R_painted {s col kk : Int} (hR : RI m a) (hs : rJ s) (hc : rJ col) (hk : rJ kk) (hQ : ∀ m1, fr SL SF m m1 → Q (v_painted a s col kk) m1 γ t) : TI E (k + 5) 263 [.ref 158, .int (iI s), .int (iI col), .int (iI kk)] m γ t Q := by
  unfold v_painted at hQ
  refine vc_X9_painted hs hc hk (S_isLaid hR hs (fun c => b0 ?_) (fun m1 c hf hG hS hP => b1 ?_))
  · have := hQ m fr.refl
    rw [ift_f (fun h => c h.1)] at this
    exact this
  · have hfin := hQ m1 hf
    have hle := hG.le
    have hv := hG.2.2.1
    have hRC : (a.1 s.toNat).1 * (a.1 s.toNat).2.1 ≤ 16 := Nat.mul_le_mul hle.1 hle.2.1
    have hC0 : 0 < (a.1 s.toNat).2.1 := by omega
    have go : ((col = 0 ∨ col = 1) ∧ 0 ≤ kk ∧ kk < (if col = 0 then ((a.1 s.toNat).1 : Int) else ((a.1 s.toNat).2.1 : Int))) → hd_X9_painted_55 E (k + 4) s col kk col kk 0 0 m1 γ t Q := by
      intro hok
      rw [ift_t ⟨c, hok⟩] at hfin
      let f : Nat → Int := fun c => if (if col = 0 then ((c / 4 / (a.1 s.toNat).2.1 : Nat) : Int) else ((c / 4 % (a.1 s.toNat).2.1 : Nat) : Int)) = kk then tP (a.1 s.toNat) c % 2 else 0
      have hf0 : ∀ c, 0 ≤ f c ∧ f c ≤ 1 := by
        intro c
        rcases Classical.em ((if col = 0 then ((c / 4 / (a.1 s.toNat).2.1 : Nat) : Int) else ((c / 4 % (a.1 s.toNat).2.1 : Nat) : Int)) = kk) with h | h
        · have e : f c = tP (a.1 s.toNat) c % 2 := if_pos h
          rw [e]
          omega
        · have e : f c = 0 := if_neg h
          rw [e]
          omega
      have hf1 : ∀ n : Nat, 0 * (n : Int) ≤ sumN f n ∧ sumN f n ≤ 1 * (n : Int) := fun n => sumN_rg (f := f) (lo := 0) (hi := 1) hf0 n
      have hsum : sumN f (4 * ((a.1 s.toNat).1 * (a.1 s.toNat).2.1)) = pai (a.1 s.toNat) col kk := by
        rw [sumN_4]
        unfold pai
        refine sumN_congr (fun c _ => ?_)
        have e1 : ∀ j, j < 4 → (4 * c + j) / 4 = c := fun j hj => by omega
        by_cases h : (if col = 0 then ((c / (a.1 s.toNat).2.1 : Nat) : Int) else ((c % (a.1 s.toNat).2.1 : Nat) : Int)) = kk
        · rw [if_pos h]
          unfold pin
          refine sumN_congr (fun j hj => ?_)
          show (if (if col = 0 then (((4 * c + j) / 4 / (a.1 s.toNat).2.1 : Nat) : Int) else (((4 * c + j) / 4 % (a.1 s.toNat).2.1 : Nat) : Int)) = kk then _ else _) = _
          rw [e1 j hj, if_pos h]
        · rw [if_neg h]
          have : ∀ j, j < 4 → f (4 * c + j) = 0 := fun j hj => by
            show (if (if col = 0 then (((4 * c + j) / 4 / (a.1 s.toNat).2.1 : Nat) : Int) else (((4 * c + j) / 4 % (a.1 s.toNat).2.1 : Nat) : Int)) = kk then _ else _) = _
            rw [e1 j hj, if_neg h]
          rw [sumN_congr (g := fun _ => 0) this]
          rfl
      have hn4 : 4 * ((a.1 s.toNat).1 * (a.1 s.toNat).2.1) = nC (a.1 s.toNat) := rfl
      refine upN (n := nC (a.1 s.toNat)) (P := fun c => hd_X9_painted_55 E (k + 4) s col kk col kk (sumN f c) (c : Int) m1 γ t Q) ?_ ?_ 0 (Nat.zero_le _)
      · have := hf1 (nC (a.1 s.toNat))
        refine vc_X9_painted_55 hs hc hk hc hk (by omega) (by omega) (S_cells hG.1 hle.1 hle.2.1 ⟨by omega, fun q => absurd q (by omega), fun _ => ?_⟩)
        rw [← hn4, hsum]
        exact hfin
      · intro c hcl ih
        have := hf1 c
        have ht := (tP_rg hv hcl).1
        obtain ⟨q1, hq1⟩ : ∃ q, q = c / 4 / (a.1 s.toNat).2.1 := ⟨_, rfl⟩
        obtain ⟨q2, hq2⟩ : ∃ q, q = c / 4 % (a.1 s.toNat).2.1 := ⟨_, rfl⟩
        have l1 : q1 ≤ c / 4 := by rw [hq1]; exact Nat.div_le_self _ _
        have l2 : q2 ≤ c / 4 := by rw [hq2]; exact Nat.mod_le _ _
        have d1 : (c : Int) / 4 / ((a.1 s.toNat).2.1 : Int) = (q1 : Int) := by rw [hq1]; simp
        have d2 : (c : Int) / 4 % ((a.1 s.toNat).2.1 : Int) = (q2 : Int) := by rw [hq2]; simp
        have ih : hd_X9_painted_55 E (k + 4) s col kk col kk (sumN f c + (if (if col = 0 then (q1 : Int) else (q2 : Int)) = kk then tP (a.1 s.toNat) c % 2 else 0)) ((c : Int) + 1) m1 γ t Q := by rw [hq1, hq2]; exact ih
        refine vc_X9_painted_55 hs hc hk hc hk (by omega) (by omega) (S_cells hG.1 hle.1 hle.2.1 ⟨by omega, fun _ => ?_, fun q => absurd (by omega) q⟩)
        rw [hG.1.2.1, d1, d2, Int.toNat_natCast, (hS.1 c hcl).2.1]
        refine ⟨fun w1 => ⟨by omega, by omega, by omega, by omega, fun w2 => ⟨by omega, ht, ?_⟩, fun w2 => ?_⟩, fun w1 => ⟨by omega, by omega, by omega, by omega, fun w2 => ⟨by omega, ht, ?_⟩, fun w2 => ?_⟩⟩
        · rw [if_neg (show ¬ col = 0 by omega), if_pos w2] at ih
          exact ih
        · rw [if_neg (show ¬ col = 0 by omega), if_neg w2] at ih
          exact ih
        · rw [if_pos (show col = 0 by omega), if_pos w2] at ih
          exact ih
        · rw [if_pos (show col = 0 by omega), if_neg w2] at ih
          exact ih
    refine S_in (by omega) (by decide) (by decide) (fun c2 => b1 ?_) (fun c2 => b0 ?_)
    · rw [hG.1.1, hG.1.2.1]
      refine ⟨fun c3 => ⟨by omega, S_in (by omega) (by decide) (by omega) (fun c4 => b1 (go ⟨by omega, by omega, by rw [if_neg (by omega)]; omega⟩)) (fun c4 => b0 ?_)⟩, fun c3 => ⟨by omega, S_in (by omega) (by decide) (by omega) (fun c4 => b1 (go ⟨by omega, by omega, by rw [if_pos (by omega)]; omega⟩)) (fun c4 => b0 ?_)⟩⟩
      · rw [ift_f (fun h => c4 (by have := h.2.2; rw [if_neg (by omega)] at this; omega))] at hfin
        exact hfin
      · rw [ift_f (fun h => c4 (by have := h.2.2; rw [if_pos (by omega)] at this; omega))] at hfin
        exact hfin
    · rw [ift_f (fun h => c2 (by have := h.2.1; omega))] at hfin
      exact hfin
end R8
