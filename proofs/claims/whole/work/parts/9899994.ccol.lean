/-! ===== colours: the class ===== -/
def mx (A B C j : Nat) : Int := 2 * io j A - io j B - io j C
theorem io_pick {a : Nat} (ha : a < 48) (y : Nat → Int) : sumN (fun j => io j a * y j) 48 = y a := by
  rw [sumN_one (f := fun j => io j a * y j) (i := a) (fun j hj => by rw [show io j a = 0 from if_neg hj, Int.zero_mul]), if_pos ha, show io a a = 1 from if_pos rfl, Int.one_mul]
theorem mx_pick {A B C : Nat} (hA : A < 48) (hB : B < 48) (hC : C < 48) (y : Nat → Int) : sumN (fun j => mx A B C j * y j) 48 = 2 * y A - y B - y C := by
  have e : sumN (fun j => mx A B C j * y j) 48 = sumN (fun j => (2 * (io j A * y j) + -1 * (io j B * y j)) + -1 * (io j C * y j)) 48 := sumN_congr (fun j _ => by unfold mx; grind)
  rw [e, sumN_add, sumN_add, sumN_mul, sumN_mul, sumN_mul, io_pick hA, io_pick hB, io_pick hC]
  omega
theorem CNT_NS {p : Nat} {G : GV} {M : Nat → Nat → Int} {h : Nat → Nat} (hh : ∀ e, e < gn G.1 G.2.1 → crX G e → h (aO (lC G) G e) < 48 ∧ h (aB (lC G) G e) < 48 ∧ h (aH (lC G) G e) < 48) (hM : ∀ e, e < gn G.1 G.2.1 → crX G e → ∀ j, j < 48 → M (xrk G e) j % (p : Int) = mx (h (aO (lC G) G e)) (h (aB (lC G) G e)) (h (aH (lC G) G e)) j % (p : Int)) : CNT p M 0 (xrk G (gn G.1 G.2.1)) 0 = NS p G h := by
  unfold CNT NS
  have l : ∀ e, e < gn G.1 G.2.1 → crX G e → ∀ y, lnr M (xrk G e) y % (p : Int) = (2 * y (h (aO (lC G) G e)) - y (h (aB (lC G) G e)) - y (h (aH (lC G) G e))) % (p : Int) := by
    intro e he hx y
    obtain ⟨a1, a2, a3⟩ := hh e he hx
    rw [lnr_mix (M := fun _ j => mx (h (aO (lC G) G e)) (h (aB (lC G) G e)) (h (aH (lC G) G e)) j) (M' := M) (r := 0) (r' := xrk G e) (s := 0) (u := 1) (k := 0) (fun j hj => by rw [hM e he hx j hj, Int.one_mul, Int.zero_mul, Int.add_zero]) y, Int.one_mul, Int.zero_mul, Int.add_zero]
    unfold lnr
    rw [mx_pick a1 a2 a3]
  have : (fun y : Nat → Int => ift (sat p M 0 (xrk G (gn G.1 G.2.1)) y) 1 0) = (fun y => ift (sol p G h y) 1 0) := by
    funext y
    have : sat p M 0 (xrk G (gn G.1 G.2.1)) y = sol p G h y := propext ⟨fun w e he hx => by
      rw [← l e he hx y]
      exact w _ (Nat.zero_le _) (xrk_cr hx he), fun w r _ hr => by
      obtain ⟨e, he, hx, hr2⟩ := xrk_ex (gn G.1 G.2.1) hr
      rw [← hr2, l e he hx y]
      exact w e he hx⟩
    rw [this]
  rw [this]
theorem pf_mono {G : GV} (hG : vG G) {a b : Nat} (h : a ≤ b) (hb : b ≤ nS G) : pf G a ≤ pf G b := cp_mono (bg_mono hG h hb)
/-- a passing's place -/
theorem pas_e {G : GV} (hG : vG G) {s i : Nat} (hs : s < nS G) (hi : i < pn G s) : (pEd G (pf G s + i)).toNat < gn G.1 G.2.1 ∧ crX G (pEd G (pf G s + i)).toNat ∧ 0 ≤ pEd G (pf G s + i) ∧ (pOv G (pf G s + i) = 1 → oS G (pEd G (pf G s + i)).toNat = (s : Int) ∧ oI G (pEd G (pf G s + i)).toNat = i) ∧ (pOv G (pf G s + i) = 0 → uS G (pEd G (pf G s + i)).toNat = (s : Int) ∧ uI G (pEd G (pf G s + i)).toNat = i) := by
  have hb := pf_pn hG hs
  obtain ⟨y, hy, ye, -⟩ := pas_get (G := G) (show pf G s + i < nP G by omega)
  obtain ⟨-, y2, -, -, y5⟩ := pSt_y hy
  obtain ⟨c1, c2, c3, c4, -⟩ := pas_cross hG hy
  obtain ⟨p1, p2, p3⟩ := pas_strand hG hy
  rw [ye] at y2 y5 p2 p3
  have e0 : (pEd G (pf G s + i)).toNat = pE G y.2.2 := by omega
  have es : y.2.1 = s := by
    rcases Nat.lt_trichotomy y.2.1 s with q | q | q
    · have := pf_mono hG (show y.2.1 + 1 ≤ s by omega) (by omega)
      have e1 : pf G (y.2.1 + 1) = cp G (bg G (y.2.1 + 1)) := rfl
      omega
    · exact q
    · have := pf_mono hG (show s + 1 ≤ y.2.1 by omega) (by omega)
      have e1 : pf G y.2.1 = cp G (bg G y.2.1) := rfl
      have e2 := pf_s hG hs
      omega
  rw [e0]
  refine ⟨c3, c4, by omega, fun h => ?_, fun h => ?_⟩
  · have ho : pO G y.2.2 = true := by
      rw [y5] at h
      cases q : pO G y.2.2
      · rw [q] at h; exact absurd h (by decide)
      · rfl
    obtain ⟨z, hz, zo, ze, zP, zS, -⟩ := xo hG c3 c4
    have := pas_inj hG hz hy ze (by rw [zo, ho])
    subst this
    unfold oI
    rw [zS, zP, ye, es, Int.toNat_natCast, Int.toNat_natCast]
    exact ⟨rfl, by omega⟩
  · have ho : pO G y.2.2 = false := by
      rw [y5] at h
      cases q : pO G y.2.2
      · rfl
      · rw [q] at h; exact absurd h (by decide)
    obtain ⟨z, hz, zo, ze, zP, zS, -⟩ := xu hG c3 c4
    have := pas_inj hG hz hy ze (by rw [zo, ho])
    subst this
    unfold uI
    rw [zS, zP, ye, es, Int.toNat_natCast, Int.toNat_natCast]
    exact ⟨rfl, by omega⟩
/-- arcs noted so far -/
def dO (G : GV) (s i e : Nat) : Prop := e < gn G.1 G.2.1 ∧ crX G e ∧ ((oS G e).toNat < s ∨ ((oS G e).toNat = s ∧ oI G e < i))
def dU (G : GV) (s i e : Nat) : Prop := e < gn G.1 G.2.1 ∧ crX G e ∧ ((uS G e).toNat < s ∨ ((uS G e).toNat = s ∧ uI G e < i))
def AR (m : MM) (G : GV) (s i : Nat) : Prop := (∀ e, e < 24 → dO G s i e → m 77 e = (aO (lC G) G e : Int)) ∧ (∀ e, e < 24 → ¬ dO G s i e → m 77 e = -1) ∧ (∀ e, e < 24 → dU G s i e → m 78 e = (aB (lC G) G e : Int) ∧ m 79 e = (aH (lC G) G e : Int))
theorem TrOK.f5 {m m1 : MM} {G : GV} (h : TrOK m G) (hb : ∀ b, ¬ (51 ≤ b ∧ b ≤ 79) → m1 b = m b) : TrOK m1 G := by
  unfold TrOK at *
  rw [hb 10 (by decide), hb 15 (by decide), hb 16 (by decide), hb 17 (by decide), hb 18 (by decide), hb 19 (by decide), hb 20 (by decide), hb 21 (by decide), hb 22 (by decide), hb 23 (by decide), hb 24 (by decide), hb 25 (by decide), hb 26 (by decide)]
  exact h
theorem CI.f5 {m m1 : MM} {γ : GM} {a : AST} (h : CI m γ a) (hb : ∀ b, ¬ (51 ≤ b ∧ b ≤ 79) → m1 b = m b) : CI m1 γ a :=
  h.move ⟨fun b hb2 => hb b (by omega), fun _ _ => rfl⟩ ⟨h.2.1.1, h.2.1.2.f5 hb⟩ (h.2.2.1.move ⟨fun b h1 h2 => hb b (by omega), rfl⟩)
section CC
variable {E : am_E} {k : Nat} {m : MM} {γ : GM} {t : am_H} {a : AST}
theorem S_numberArcs {Q : MM → GM → am_H → Prop} {G : GV} (s : Nat) (hT : TrOK m G) (hG : vG G) (hs : s < nS G) (h2 : m 51 2 = (ba G s : Int)) (hA : AR m G s 0) (hQ : ∀ m1, (∀ b, ¬ (b = 51 ∨ (77 ≤ b ∧ b ≤ 79)) → m1 b = m b) → m1 51 2 = (ba G (s + 1) : Int) → AR m1 G s (pn G s) → Q m1 γ t) : TV E (k + 4) 8 [.ref 51, .ref 10, .int (iI (s : Int))] m γ t Q := by
  have h64 := nS64 hG
  have hP := nP_le hG
  have hb := pf_pn hG hs
  have hgn := gn_le _ hG.1.le.1 _ hG.1.le.2
  have h40 := ba_40 hG
  have hbs := ba_mono (G := G) (show s + 1 ≤ nS G by omega)
  have hbe : ba G (s + 1) = ba G s + aU G s := rfl
  have hU := aU_eq G s
  have cuP : ∀ i, i ≤ pn G s → cu G s i ≤ un G s := fun i hi => cu_mono hi
  refine vc_X1_numberArcs (by omega) (S_passesOn s hT hG rfl hs ?_)
  refine upN (n := pn G s) (P := fun i => hd_X1_numberArcs_12 E (k + 3) (s : Int) (s : Int) (pn G s : Int) (cu G s i : Int) (i : Int) m γ t Q) ?_ (fun i hi ih => ?_) 0 (Nat.zero_le _) |> fun w => by rw [cu_0] at w; exact w
  · refine vc_X1_numberArcs_12 (by omega) (by omega) (by omega) (by have := cuP (pn G s) (Nat.le_refl _); omega) (by omega) ⟨fun z => absurd z (by omega), fun _ => ?_⟩
    refine upN (n := pn G s) (P := fun i => ∀ m1 : MM, (∀ b, ¬ (77 ≤ b ∧ b ≤ 79) → m1 b = m b) → AR m1 G s i → hd_X1_numberArcs_43 E (k + 3) (s : Int) (s : Int) (pn G s : Int) (un G s : Int) (cu G s i : Int) (i : Int) m1 γ t Q) (fun m1 f1 A1 => ?_) (fun i hi ih => fun m1 f1 A1 => ?_) 0 (Nat.zero_le _) m (fun _ _ => rfl) hA |> fun w => by rw [cu_0] at w; exact w
    · have hc := cuP (pn G s) (Nat.le_refl _)
      refine vc_X1_numberArcs_43 (by omega) (by omega) (by omega) (by omega) (by omega) (by omega) ⟨fun z => absurd z (by omega), fun _ => S_max (by omega) (by omega) ?_⟩
      rw [f1 51 (by decide), h2]
      have e1 : (if (1 : Int) ≤ (un G s : Int) then (un G s : Int) else 1) = (aU G s : Int) := by
        split <;> omega
      rw [e1]
      refine ⟨by omega, hQ _ (fun b hb => ?_) ?_ ?_⟩
      · rw [up_ne (by omega)]
        exact f1 b (by omega)
      · rw [up_self, up_self, hbe]
        omega
      · unfold AR at *
        rw [up_ne (by decide), up_ne (by decide), up_ne (by decide)]
        exact A1
    · have hc := cuP i (by omega)
      have hc1 := cuP (i + 1) (by omega)
      have hcs := cu_s G s i
      obtain ⟨e1, e2, e3, e4, e5⟩ := pas_e hG hs hi
      have hT1 : TrOK m1 G := hT.f5 (fun b hb => f1 b (by omega))
      have h21 : m1 51 2 = (ba G s : Int) := by rw [f1 51 (by decide)]; exact h2
      have hz : ∀ (i' : Int), i' = (i : Int) → pEd G (pf G s + i'.toNat) = pEd G (pf G s + i) ∧ pOv G (pf G s + i'.toNat) = pOv G (pf G s + i) := fun i' h => by rw [h, Int.toNat_natCast]; exact ⟨rfl, rfl⟩
      refine vc_X1_numberArcs_43 (by omega) (by omega) (by omega) (by omega) (by omega) (by omega) ⟨fun _ => ?_, fun z => absurd (by omega) z⟩
      refine S_edgePassed s hT1 hG rfl hs (by omega) (fun _ => ?_) (fun z => absurd (by omega) z)
      rw [(hz _ rfl).1]
      have ee : pEd G (pf G s + i) = (((pEd G (pf G s + i)).toNat : Nat) : Int) := by omega
      generalize (pEd G (pf G s + i)).toNat = e at *
      refine S_isOverAt s hT1 hG rfl hs (by omega) (fun ho => b1 ?_) (fun ho => b0 ?_)
      · rw [(hz _ rfl).2] at ho
        obtain ⟨o1, o2⟩ := e4 ho
        rw [if_neg (by omega)] at hcs
        have hlab : aO (lC G) G e = ba G s + (if cu G s i < un G s then cu G s i else 0) := by
          unfold aO
          rw [o1, o2, Int.toNat_natCast, show cu G s (i + 1) = cu G s i by omega]
          rfl
        have fin : ∀ v : Int, v = (aO (lC G) G e : Int) → hd_X1_numberArcs_43 E (k + 3) (s : Int) (s : Int) (pn G s : Int) (un G s : Int) (cu G s i : Int) ((i : Int) + 1) (up m1 77 (up (m1 77) e v)) γ t Q := fun v hv => by
          have := ih (up m1 77 (up (m1 77) e v)) (fun b hb => by rw [up_ne (by omega)]; exact f1 b hb) ⟨fun e' he' hd => ?_, fun e' he' hd => ?_, fun e' he' hd => ?_⟩
          · rw [show cu G s (i + 1) = cu G s i by omega] at this
            exact this
          · rw [up_self]
            by_cases q : e' = e
            · rw [q, up_self, hv]
            · rw [up_ne q]
              refine A1.1 e' he' ⟨hd.1, hd.2.1, ?_⟩
              rcases hd.2.2 with w | ⟨w1, w2⟩
              · exact Or.inl w
              · refine Or.inr ⟨w1, ?_⟩
                have : oI G e' ≠ i := fun w3 => q (by
                  obtain ⟨y1, y2, y3, y4, y5, y6⟩ := oI_ok hG hd.1 hd.2.1
                  rw [w1, w3] at y6
                  omega)
                omega
          · rw [up_self]
            have q : e' ≠ e := fun q => hd ⟨by rw [q]; exact e1, by rw [q]; exact e2, Or.inr ⟨by rw [q, o1]; exact Int.toNat_natCast s, by rw [q, o2]; omega⟩⟩
            rw [up_ne q]
            exact A1.2.1 e' he' (fun w => hd ⟨w.1, w.2.1, by
              rcases w.2.2 with w | ⟨w1, w2⟩
              · exact Or.inl w
              · exact Or.inr ⟨w1, by omega⟩⟩)
          · rw [up_ne (by decide), up_ne (by decide)]
            refine A1.2.2 e' he' ⟨hd.1, hd.2.1, ?_⟩
            rcases hd.2.2 with w | ⟨w1, w2⟩
            · exact Or.inl w
            · refine Or.inr ⟨w1, ?_⟩
              have : uI G e' ≠ i := fun w3 => by
                obtain ⟨y1, y2, y3, y4, y5, y6⟩ := uI_ok hG hd.1 hd.2.1
                rw [w1, w3] at y5
                omega
              omega
        rw [ee, h21]
        refine ⟨fun c => ?_, fun c => ?_⟩
        · rw [if_pos (by omega)] at hlab
          refine S_put 24 rfl rfl (by decide) (by omega) (by omega) ?_
          rw [ptn_in (by omega)]
          exact fin _ (by omega)
        · rw [if_neg (by omega)] at hlab
          refine S_put 24 rfl rfl (by decide) (by omega) (by omega) ?_
          rw [ptn_in (by omega)]
          exact fin _ (by omega)
      · rw [(hz _ rfl).2] at ho
        obtain ⟨o1, o2⟩ := e5 ho
        rw [if_pos ho] at hcs
        have hB : aB (lC G) G e = ba G s + cu G s i := by
          unfold aB lC
          rw [o1, o2, Int.toNat_natCast, if_pos (by omega)]
        have hH : aH (lC G) G e = ba G s + (if cu G s i + 1 < un G s then cu G s i + 1 else 0) := by
          unfold aH lC
          rw [o1, o2, Int.toNat_natCast, hcs]
        have fin : ∀ v : Int, v = (aH (lC G) G e : Int) → hd_X1_numberArcs_43 E (k + 3) (s : Int) (s : Int) (pn G s : Int) (un G s : Int) ((cu G s i : Int) + 1) ((i : Int) + 1) (up (up m1 78 (up (m1 78) e ((ba G s : Int) + (cu G s i : Int)))) 79 (up (m1 79) e v)) γ t Q := fun v hv => by
          have := ih (up (up m1 78 (up (m1 78) e ((ba G s : Int) + (cu G s i : Int)))) 79 (up (m1 79) e v)) (fun b hb => by rw [up_ne (by omega), up_ne (by omega)]; exact f1 b hb) ⟨fun e' he' hd => ?_, fun e' he' hd => ?_, fun e' he' hd => ?_⟩
          · rw [hcs] at this
            exact this
          · rw [up_ne (by decide), up_ne (by decide)]
            refine A1.1 e' he' ⟨hd.1, hd.2.1, ?_⟩
            rcases hd.2.2 with w | ⟨w1, w2⟩
            · exact Or.inl w
            · refine Or.inr ⟨w1, ?_⟩
              have : oI G e' ≠ i := fun w3 => by
                obtain ⟨y1, y2, y3, y4, y5, y6⟩ := oI_ok hG hd.1 hd.2.1
                rw [w1, w3] at y5
                omega
              omega
          · rw [up_ne (by decide), up_ne (by decide)]
            exact A1.2.1 e' he' (fun w => hd ⟨w.1, w.2.1, by
              rcases w.2.2 with w | ⟨w1, w2⟩
              · exact Or.inl w
              · exact Or.inr ⟨w1, by omega⟩⟩)
          · rw [up_ne (show 78 ≠ 79 by decide), up_self, up_self]
            by_cases q : e' = e
            · rw [q, up_self, up_self, hv]
              exact ⟨by omega, rfl⟩
            · rw [up_ne q, up_ne q]
              refine A1.2.2 e' he' ⟨hd.1, hd.2.1, ?_⟩
              rcases hd.2.2 with w | ⟨w1, w2⟩
              · exact Or.inl w
              · refine Or.inr ⟨w1, ?_⟩
                have : uI G e' ≠ i := fun w3 => q (by
                  obtain ⟨y1, y2, y3, y4, y5, y6⟩ := uI_ok hG hd.1 hd.2.1
                  rw [w1, w3] at y6
                  omega)
                omega
        rw [ee, h21]
        refine S_put 24 rfl rfl (by decide) (by omega) (by omega) ?_
        rw [ptn_in (by omega), up_ne (show 51 ≠ 78 by decide), h21]
        refine ⟨by omega, fun c => ?_, fun c => ?_⟩
        · rw [if_pos (by omega)] at hH
          refine S_put 24 rfl rfl (by decide) (by omega) (by omega) ?_
          rw [ptn_in (by omega), up_ne (show 79 ≠ 78 by decide)]
          exact fin _ (by omega)
        · rw [if_neg (by omega)] at hH
          refine S_put 24 rfl rfl (by decide) (by omega) (by omega) ?_
          rw [ptn_in (by omega), up_ne (show 79 ≠ 78 by decide)]
          exact fin _ (by omega)
  · have hc := cuP i (by omega)
    have hcs := cu_s G s i
    refine vc_X1_numberArcs_12 (by omega) (by omega) (by omega) (by omega) (by omega) ⟨fun _ => S_isOverAt s hT hG rfl hs (by omega) (fun ho => b1 ?_) (fun ho => b0 ?_), fun z => absurd (by omega) z⟩
    · rw [Int.toNat_natCast] at ho
      rw [if_neg (by omega)] at hcs
      rw [hcs] at ih
      exact ih
    · rw [Int.toNat_natCast] at ho
      rw [if_pos ho] at hcs
      rw [hcs] at ih
      exact ih
theorem S_addC {Q : MM → GM → am_H → Prop} {x : Int} (n a : Nat) (hn : n < 24) (ha : a < 40) (h1 : m 51 1 = (n : Int)) (hx : -2 ≤ x ∧ x ≤ 2) (hb : -100 ≤ m (53 + n) a ∧ m (53 + n) a ≤ 100) (hQ : Q (up m (53 + n) (up (m (53 + n)) a (m (53 + n) a + x))) γ t) : TV E k 9 [.ref 51, .int (iI (a : Int)), .int (iI x)] m γ t Q := by
  refine vc_X1_add (by omega) (by omega) ⟨fun z => absurd z (by omega), fun _ => ⟨fun _ => ⟨fun _ => ?_, fun z => absurd (by rw [h1]; omega) z⟩, fun z => absurd (by omega) z⟩⟩
  rw [h1, Int.toNat_natCast, Int.toNat_natCast]
  exact ⟨by omega, by omega, by omega, by omega, fun m12 h => by rw [h]; exact hQ⟩
noncomputable def v_colours (a : AST) (s x : Int) : Int := ift (isG a.1 s ∧ 0 ≤ x ∧ pr6 x.toNat) ((ba (a.1 s.toNat) (nS (a.1 s.toNat)) : Int) - (rkV x.toNat (a.1 s.toNat) : Int)) (-2)
theorem io_b (a b : Nat) : 0 ≤ io a b ∧ io a b ≤ 1 := by
  unfold io
  split <;> omega
theorem row53 : ∀ e, e < 24 → ncb (53 + e) = true ∧ lay (53 + e) = (0, 40, []) ∧ lcb (53 + e) = false := by decide
theorem S_freedom {Q : Int → MM → GM → am_H → Prop} {G : GV} {p : Nat} (hp : pr6 p) (hT : TrOK m G) (hG : vG G) (hγ : γ 11 = G) (hQ : ∀ m1, (∀ b, ¬ (51 ≤ b ∧ b ≤ 79) → m1 b = m b) → Q ((ba G (nS G) : Int) - (rkV p G : Int)) m1 γ t) : TI E (k + 5) 7 [.ref 51, .ref 10, .int (iI (p : Int))] m γ t Q := by
  have hp0 : 0 < p ∧ p < 14 := by unfold pr6 at hp; omega
  have hgn := gn_le _ hG.1.le.1 _ hG.1.le.2
  have h64 := nS64 hG
  have h40 := ba_40 hG
  refine vc_X1_freedom (by omega) (S_fill 24 rfl rfl rfl (by decide) (by omega) ?_)
  refine upN (n := nS G) (P := fun s => ∀ m1 : MM, (∀ b, ¬ (51 ≤ b ∧ b ≤ 79) → m1 b = m b) → m1 51 2 = (ba G s : Int) → AR m1 G s 0 → hd_X1_freedom_15 E (k + 4) (p : Int) (p : Int) (s : Int) m1 γ t Q) (fun m1 f1 a1 A1 => ?_) (fun s hs ih => fun m1 f1 a1 A1 => ?_) 0 (Nat.zero_le _) _ (fun b hb => by rw [up_ne (by omega), up_ne (by omega)]) (by rw [up_ne (by decide), up_self, up_self]; rfl) ⟨fun e he hd => by
      exfalso
      rcases hd.2.2 with w | ⟨w1, w2⟩ <;> omega, fun e he _ => by
      rw [up_self]
      exact if_pos he, fun e he hd => by
      exfalso
      rcases hd.2.2 with w | ⟨w1, w2⟩ <;> omega⟩
  · refine vc_X1_freedom_15 (by omega) (by omega) (by omega) (S_strandsN (hT.f5 f1) ⟨fun z => absurd z (by omega), fun _ => ?_⟩)
    -- rows
    have A2 : ∀ e, e < gn G.1 G.2.1 → crX G e → m1 77 e = (aO (lC G) G e : Int) ∧ m1 78 e = (aB (lC G) G e : Int) ∧ m1 79 e = (aH (lC G) G e : Int) := fun e he hx => by
      obtain ⟨o1, o2, -⟩ := oI_ok hG he hx
      obtain ⟨u1, u2, -⟩ := uI_ok hG he hx
      exact ⟨A1.1 e (by omega) ⟨he, hx, Or.inl o2⟩, A1.2.2 e (by omega) ⟨he, hx, Or.inl u2⟩⟩
    have A3 : ∀ e, e < gn G.1 G.2.1 → ¬ crX G e → m1 77 e = -1 := fun e he hx => A1.2.1 e (by omega) (fun w => hx w.2.1)
    refine upN (n := gn G.1 G.2.1) (P := fun e => ∀ m2 : MM, (∀ b, ¬ (51 ≤ b ∧ b ≤ 76) → m2 b = m1 b) → m2 51 2 = (ba G (nS G) : Int) → m2 51 1 = (xrk G e : Int) → (∀ e', e' < e → crX G e' → ∀ j, j < 40 → m2 (53 + xrk G e') j = mx (aO (lC G) G e') (aB (lC G) G e') (aH (lC G) G e') j) → hd_X1_freedom_42 E (k + 4) (p : Int) (p : Int) (e : Int) m2 γ t Q) (fun m2 f2 c2 n2 r2 => ?_) (fun e he ih => fun m2 f2 c2 n2 r2 => ?_) 0 (Nat.zero_le _) _ (fun b hb => up_ne (by omega)) (by rw [up_self, up_ne (by decide)]; exact a1) (by rw [up_self, up_self]; rfl) (fun e' he' => absurd he' (Nat.not_lt_zero e'))
    · refine vc_X1_freedom_42 (by omega) (by omega) (by omega) (vc_X7_edges (S_edges (gi rfl) (fun _ => ?_)))
      rw [hγ]
      have hxg := xrk_le (G := G) (gn G.1 G.2.1)
      have rows : ∀ r, r < xrk G (gn G.1 G.2.1) → ∃ e, e < gn G.1 G.2.1 ∧ crX G e ∧ xrk G e = r := fun r hr => xrk_ex (gn G.1 G.2.1) hr
      refine ⟨fun z => absurd z (by omega), fun _ => ?_⟩
      refine S_rankC (N := NS p G (fun x => x)) (xrk G (gn G.1 G.2.1)) (ba G (nS G)) hp (by omega) h40 n2 c2 (fun r j hr hj => ?_) (fun r j hr ha hj => ?_) ?_ (fun f m3 hf hN f3 => ⟨by rw [c2]; omega, ?_⟩)
      · obtain ⟨e, e1, e2, e3⟩ := rows r hr
        rw [← e3, r2 e e1 e2 j hj]
        unfold mx
        have := io_b j (aO (lC G) G e)
        have := io_b j (aB (lC G) G e)
        have := io_b j (aH (lC G) G e)
        omega
      · obtain ⟨e, e1, e2, e3⟩ := rows r hr
        obtain ⟨l1, l2, l3, -⟩ := arc_lt hG e1 e2
        rw [← e3, r2 e e1 e2 j hj]
        unfold mx io
        rw [if_neg (by omega), if_neg (by omega), if_neg (by omega)]
        rfl
      · refine CNT_NS (fun e he hx => ?_) (fun e he hx j hj => ?_)
        · obtain ⟨l1, l2, l3, -⟩ := arc_lt hG he hx
          exact ⟨by omega, by omega, by omega⟩
        · obtain ⟨l1, l2, l3, -⟩ := arc_lt hG he hx
          unfold TBC
          split
          · next h => rw [r2 e he hx j h]
          · next h =>
            unfold mx io
            rw [if_neg (by omega), if_neg (by omega), if_neg (by omega)]
            rfl
      · rw [c2]
        have := hQ m3 (fun b hb => by rw [f3 b (by omega), f2 b (by omega)]; exact f1 b hb)
        rw [rkV_eq hp hN] at this
        exact this
    · have hxe := xrk_le (G := G) e
      refine vc_X1_freedom_42 (by omega) (by omega) (by omega) (vc_X7_edges (S_edges (gi rfl) (fun _ => ?_)))
      rw [hγ]
      refine ⟨fun _ => ⟨fun _ => S_at 24 rfl rfl rfl (by decide) (by omega) (fun _ => ?_), fun z => absurd (by omega) z⟩, fun z => absurd (by omega) z⟩
      rw [atn_in (by omega), f2 77 (by decide)]
      by_cases hx : crX G e
      · obtain ⟨q1, q2, q3⟩ := A2 e he hx
        obtain ⟨l1, l2, l3, -⟩ := arc_lt hG he hx
        obtain ⟨w1, w2, w3⟩ := row53 (xrk G e) (by omega)
        have hxs : xrk G (e + 1) = xrk G e + 1 := by rw [xrk_succ, if_pos (show G.2.2 e = 0 ∨ G.2.2 e = 1 from hx)]
        rw [q1]
        refine ⟨fun z => absurd z (by omega), fun _ => ?_⟩
        rw [n2, Int.toNat_natCast]
        refine ⟨fun _ => ?_, fun z => absurd (by omega) z⟩
        refine ⟨by omega, S_fill 40 w1 w2 w3 (by decide) (by omega) (S_at 24 rfl rfl rfl (by decide) (by omega) (fun _ => ?_))⟩
        rw [atn_in (by omega), up_ne (show 77 ≠ 53 + xrk G e by omega), f2 77 (by decide), q1]
        generalize hF0 : flq 40 0 (m2 (53 + xrk G e)) = F0
        have f0 : ∀ j, j < 40 → F0 j = 0 := fun j hj => by rw [← hF0]; exact if_pos hj
        refine S_addC (xrk G e) (aO (lC G) G e) (by omega) (by omega) (by rw [up_ne (by omega)]; exact n2) (by omega) (by rw [up_self, f0 _ (by omega)]; omega) ?_
        rw [up_self, up_up]
        generalize hF1 : up F0 (aO (lC G) G e) (F0 (aO (lC G) G e) + 2) = F1
        have f1' : ∀ j, j < 40 → F1 j = 2 * io j (aO (lC G) G e) := fun j hj => by
          rw [← hF1]
          unfold io
          by_cases q : j = aO (lC G) G e
          · rw [q, up_self, f0 _ (by omega), if_pos rfl]; rfl
          · rw [up_ne q, f0 j hj, if_neg q]; rfl
        refine S_at 24 rfl rfl rfl (by decide) (by omega) (fun _ => ?_)
        rw [atn_in (by omega), up_ne (show 78 ≠ 53 + xrk G e by omega), f2 78 (by decide), q2]
        have i1 := io_b (aB (lC G) G e) (aO (lC G) G e)
        refine S_addC (xrk G e) (aB (lC G) G e) (by omega) (by omega) (by rw [up_ne (by omega)]; exact n2) (by omega) (by rw [up_self, f1' _ (by omega)]; omega) ?_
        rw [up_self, up_up]
        generalize hF2 : up F1 (aB (lC G) G e) (F1 (aB (lC G) G e) + -1) = F2
        have f2' : ∀ j, j < 40 → F2 j = 2 * io j (aO (lC G) G e) - io j (aB (lC G) G e) := fun j hj => by
          rw [← hF2]
          by_cases q : j = aB (lC G) G e
          · rw [q, up_self, f1' _ (by omega), show io (aB (lC G) G e) (aB (lC G) G e) = 1 from if_pos rfl]; omega
          · rw [up_ne q, f1' j hj, show io j (aB (lC G) G e) = 0 from if_neg q]; omega
        refine S_at 24 rfl rfl rfl (by decide) (by omega) (fun _ => ?_)
        rw [atn_in (by omega), up_ne (show 79 ≠ 53 + xrk G e by omega), f2 79 (by decide), q3]
        have i2 := io_b (aH (lC G) G e) (aO (lC G) G e)
        have i3 := io_b (aH (lC G) G e) (aB (lC G) G e)
        refine S_addC (xrk G e) (aH (lC G) G e) (by omega) (by omega) (by rw [up_ne (by omega)]; exact n2) (by omega) (by rw [up_self, f2' _ (by omega)]; omega) ?_
        rw [up_self, up_up]
        generalize hF3 : up F2 (aH (lC G) G e) (F2 (aH (lC G) G e) + -1) = F3
        have f3' : ∀ j, j < 40 → F3 j = mx (aO (lC G) G e) (aB (lC G) G e) (aH (lC G) G e) j := fun j hj => by
          rw [← hF3]
          unfold mx
          by_cases q : j = aH (lC G) G e
          · rw [q, up_self, f2' _ (by omega), show io (aH (lC G) G e) (aH (lC G) G e) = 1 from if_pos rfl]; omega
          · rw [up_ne q, f2' j hj, show io j (aH (lC G) G e) = 0 from if_neg q]; omega
        have n3 : up m2 (53 + xrk G e) F3 51 = m2 51 := up_ne (by omega)
        rw [n3, n2]
        refine ⟨by omega, ih _ (fun b hb => by rw [up_ne (by omega), up_ne (by omega)]; exact f2 b hb) (by rw [up_self, up_ne (by decide)]; exact c2) (by rw [up_self, up_self, hxs]; omega) (fun e' he' hx' j hj => ?_)⟩
        rw [up_ne (by omega)]
        by_cases q : e' = e
        · rw [q, up_self]
          exact f3' j hj
        · have := xrk_cr hx' (show e' < e by omega)
          rw [up_ne (by omega)]
          exact r2 e' (by omega) hx' j hj
      · rw [A3 e he hx]
        refine ⟨fun _ => ih m2 f2 c2 ?_ (fun e' he' hx' => ?_), fun z => absurd rfl z⟩
        · rw [n2, xrk_succ, if_neg (show ¬ (G.2.2 e = 0 ∨ G.2.2 e = 1) from hx)]
          rfl
        · refine r2 e' ?_ hx'
          have : e' ≠ e := fun q => hx (q ▸ hx')
          omega
  · have hT1 : TrOK m1 G := hT.f5 f1
    refine vc_X1_freedom_15 (by omega) (by omega) (by omega) (S_strandsN hT1 ⟨fun _ => ?_, fun z => absurd (by omega) z⟩)
    refine S_numberArcs s hT1 hG hs a1 A1 (fun m2 f2 a2 A2 => ih m2 (fun b hb => by rw [f2 b (by omega)]; exact f1 b hb) a2 ?_)
    have o : ∀ e, dO G (s + 1) 0 e ↔ dO G s (pn G s) e := fun e => ⟨fun w => ⟨w.1, w.2.1, by
        obtain ⟨-, -, y3, -⟩ := oI_ok hG w.1 w.2.1
        rcases w.2.2 with q | q
        · by_cases q2 : (oS G e).toNat = s
          · rw [q2] at y3; exact Or.inr ⟨q2, y3⟩
          · exact Or.inl (by omega)
        · omega⟩, fun w => ⟨w.1, w.2.1, by
        rcases w.2.2 with q | q
        · exact Or.inl (by omega)
        · exact Or.inl (by omega)⟩⟩
    have u : ∀ e, dU G (s + 1) 0 e → dU G s (pn G s) e := fun e w => ⟨w.1, w.2.1, by
        obtain ⟨-, -, y3, -⟩ := uI_ok hG w.1 w.2.1
        rcases w.2.2 with q | q
        · by_cases q2 : (uS G e).toNat = s
          · rw [q2] at y3; exact Or.inr ⟨q2, y3⟩
          · exact Or.inl (by omega)
        · omega⟩
    exact ⟨fun e he hd => A2.1 e he ((o e).mp hd), fun e he hd => A2.2.1 e he (fun w => hd ((o e).mpr w)), fun e he hd => A2.2.2 e he (u e hd)⟩
theorem S_isSmallPrime {Q : Int → MM → GM → am_H → Prop} {x : Int} (hx : rJ x) (q1 : 0 ≤ x → pr6 x.toNat → Q 1 m γ t) (q0 : ¬ (0 ≤ x ∧ pr6 x.toNat) → Q 0 m γ t) : TI E k 179 [.int (iI x)] m γ t Q := by
  unfold pr6 at *
  exact vc_X8_isSmallPrime hx ⟨fun c => q1 (by omega) (by omega), fun c => ⟨fun c => q1 (by omega) (by omega), fun c => ⟨fun c => q1 (by omega) (by omega), fun c => ⟨fun c => q1 (by omega) (by omega), fun c => ⟨fun c => q1 (by omega) (by omega), fun c => ⟨fun c => q1 (by omega) (by omega), fun c => q0 (by omega)⟩⟩⟩⟩⟩⟩
theorem C_colours {Q : Int → MM → GM → am_H → Prop} {s x : Int} (hC : CI m γ a) (hs : rJ s) (hx : rJ x) (hQ : ∀ m1 γ1, CI m1 γ1 a → rsame m m1 → Q (v_colours a s x) m1 γ1 t) : TI E (k + 6) 159 [.ref 0, .int (iI s), .int (iI x)] m γ t Q := by
  unfold v_colours at hQ
  have h0 : ¬ (isG a.1 s ∧ 0 ≤ x ∧ pr6 x.toNat) → Q (-2) m γ t := fun h => by
    have := hQ m γ hC (fun _ _ => rfl)
    rw [ift_f h] at this
    exact this
  refine vc_X8_colours hs hx (S_gridIn hC hs (fun c1 => oN (h0 (fun h => c1 h.1))) (fun c1 => oSm ?_))
  obtain ⟨i1, i2, i3, i4, -⟩ := c1.i hC
  refine ⟨i1, S_isSmallPrime hx (fun c2 c3 => b1 ?_) (fun c2 => b0 (h0 (fun h => c2 h.2)))⟩
  refine vc_X8_traceOf i1 (S_followS hC c1 (fun m1 hC1 hT hf => ⟨rfl, ?_⟩))
  have := S_freedom (E := E) (k := k) (m := m1) (γ := up γ 11 (a.1 s.toNat)) (t := t) (Q := Q) c3 hT i3 up_self (fun m2 f2 => ?_)
  · rw [Int.toNat_of_nonneg c2] at this
    exact this
  · have := hQ m2 _ (hC1.f5 f2) (fun b hb => by rw [f2 b (by omega)]; exact hf b (by omega) (by omega))
    rw [ift_t ⟨c1, c2, c3⟩] at this
    exact this
end CC
