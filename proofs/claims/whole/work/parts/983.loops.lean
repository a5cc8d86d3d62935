/-! ===== loops ===== -/
theorem xrk_succ {G : GV} {e : Nat} : xrk G (e + 1) = xrk G e + (if G.2.2 e = 0 ∨ G.2.2 e = 1 then 1 else 0) := by
  have h1 := cnt_rng G.2.2 0 e
  have h2 := cnt_rng G.2.2 1 e
  unfold xrk
  show ((cnt G.2.2 0 e + if G.2.2 e = 0 then 1 else 0) + (cnt G.2.2 1 e + if G.2.2 e = 1 then 1 else 0)).toNat = _
  by_cases c0 : G.2.2 e = 0
  · rw [if_pos c0, if_neg (by omega), if_pos (Or.inl c0)]
    omega
  · by_cases c1 : G.2.2 e = 1
    · rw [if_neg c0, if_pos c1, if_pos (Or.inr c1)]
      omega
    · rw [if_neg c0, if_neg c1, if_neg (by omega)]
      omega
theorem xrk_le {G : GV} (e : Nat) : xrk G e ≤ e := by
  have h1 := cnt2_le G.2.2 e
  unfold xrk
  omega
/-- smoothed up to an edge -/
def smP (G : GV) (set i : Nat) : Nat → Int := fun e => if e < i then (smo G set).2.2 e else G.2.2 e
theorem smP_0 {G : GV} {set : Nat} : smP G set 0 = G.2.2 := by
  funext e
  exact if_neg (Nat.not_lt_zero e)
theorem smP_end {G : GV} {set : Nat} : smP G set (gn G.1 G.2.1) = (smo G set).2.2 := by
  funext e
  unfold smP
  by_cases c : e < gn G.1 G.2.1
  · rw [if_pos c]
  · rw [if_neg c]
    show G.2.2 e = if e < gn G.1 G.2.1 ∧ _ then _ else G.2.2 e
    rw [if_neg (fun q => c q.1)]
theorem smP_skip {G : GV} {set e : Nat} (h : ¬ (G.2.2 e = 0 ∨ G.2.2 e = 1)) : smP G set (e + 1) = smP G set e := by
  funext e'
  unfold smP
  by_cases c : e' = e
  · subst c
    rw [if_pos (by omega), if_neg (by omega)]
    show (if e' < gn G.1 G.2.1 ∧ _ then _ else G.2.2 e') = _
    rw [if_neg (fun q => h q.2)]
  · by_cases c2 : e' < e
    · rw [if_pos (by omega), if_pos c2]
    · rw [if_neg (by omega), if_neg c2]
theorem smP_put {G : GV} {set e : Nat} {d : Int} (he : e < gn G.1 G.2.1) (h : G.2.2 e = 0 ∨ G.2.2 e = 1) (hd : d = if set.testBit (xrk G e) then 3 else 2) : up (smP G set e) e d = smP G set (e + 1) := by
  funext e'
  unfold up smP
  by_cases c : e' = e
  · subst c
    rw [if_pos rfl, if_pos (by omega), hd]
    exact (if_pos (show e' < gn G.1 G.2.1 ∧ (G.2.2 e' = 0 ∨ G.2.2 e' = 1) from ⟨he, h⟩)).symm
  · rw [if_neg c]
    by_cases c2 : e' < e
    · rw [if_pos c2, if_pos (by omega)]
    · rw [if_neg c2, if_neg (by omega)]
theorem vG_smo {G : GV} {set : Nat} (h : vG G) : vG (smo G set) := ⟨h.1, fun e he => by
  have he : e < gn G.1 G.2.1 := he
  have := h.2 e he
  show 0 ≤ (if e < gn G.1 G.2.1 ∧ _ then (if _ then (3 : Int) else 2) else G.2.2 e) ∧ (if e < gn G.1 G.2.1 ∧ _ then (if _ then (3 : Int) else 2) else G.2.2 e) ≤ 3
  split
  · split <;> omega
  · exact this⟩
theorem nG_smo {G : GV} {set : Nat} (h : nG G) : nG (smo G set) := fun e he => by
  have he : gn G.1 G.2.1 ≤ e := he
  show (if e < gn G.1 G.2.1 ∧ _ then _ else G.2.2 e) = 0
  rw [if_neg (fun q => by omega)]
  exact h e he
section LO
variable {E : am_E} {k : Nat} {m : MM} {γ : GM} {t : am_H} {a : AST}
theorem S_traceN {Q : Option Nat → MM → GM → am_H → Prop} (hC : CI m γ a) (hn : nG (γ 2)) (hQ : ∀ m1, vG (γ 2) → CI m1 (up γ 11 (γ 2)) a → TrOK m1 (γ 2) → rsame m m1 → Q (some 10) m1 (up γ 11 (γ 2)) t) : TA E (k + 5) 186 [.ref 0, .ref 2] m γ t Q := fun h S => by
  have hv2 : vG (γ 2) := (S.gg 2 (gi rfl)).vg
  revert h
  show TA E (k + 5) 186 [.ref 0, .ref 2] m γ t Q
  exact vc_X8_traceOf (gi rfl) (S_follow (gi rfl) (by decide) hC.2.1.1 hn hv2 hC.2.1.2 (fun m1 hT hf => hQ m1 hv2 (hC.follow hT hn hf) hT (fun b hb => hf b (by omega) (by omega))))
theorem S_strandsN {Q : Int → MM → GM → am_H → Prop} {G : GV} (hT : TrOK m G) (hQ : Q (nS G : Int) m γ t) : TI E k 99 [.ref 10] m γ t Q := by
  refine vc_X7_strands ?_
  unfold W_X7_strands
  rw [hT.2.2.2.2]
  exact hQ
noncomputable def v_loops (a : AST) (s x : Int) : Int := ift (isG a.1 s ∧ 0 ≤ x ∧ x < 2 ^ (nX (a.1 s.toNat)).toNat) (lps (a.1 s.toNat) x.toNat) (-2)
theorem C_loops {Q : Int → MM → GM → am_H → Prop} {s x : Int} (hC : CI m γ a) (hs : rJ s) (hx : rK x) (hQ : ∀ m1 γ1, CI m1 γ1 a → rsame m m1 → Q (v_loops a s x) m1 γ1 t) : TI E (k + 6) 154 [.ref 0, .int (iI s), .long (lI x)] m γ t Q := by
  unfold v_loops at hQ
  refine vc_X8_loops hs hx (S_gridIn hC hs (fun c1 => oN ?_) (fun c1 => oSm ?_))
  · have := hQ m γ hC (fun _ _ => rfl)
    rw [ift_f (fun h => c1 h.1)] at this
    exact this
  obtain ⟨i1, i2, i3, i4, i5, i6, i7, i8⟩ := c1.i hC
  have hgn := gn_le _ i6 _ i8
  have s0 := c1.1
  have s3 := c1.2.1
  refine ⟨i1, S_gcrosses i1 (fun hX => ?_)⟩
  rw [i2] at hX ⊢
  have eX : nX (a.1 s.toNat) = ((nX (a.1 s.toNat)).toNat : Int) := by omega
  have hU : lcI (lUshr x (nX (a.1 s.toNat))) 0 = 0 ↔ 0 ≤ x ∧ x < 2 ^ (nX (a.1 s.toNat)).toNat := by
    rw [eX]
    exact lUshr_0 hx (by omega)
  have hp : (2 : Nat) ^ (nX (a.1 s.toNat)).toNat ≤ 2 ^ 24 := Nat.pow_le_pow_right (by decide) (by omega)
  have ep : (2 : Int) ^ (nX (a.1 s.toNat)).toNat = ((2 ^ (nX (a.1 s.toNat)).toNat : Nat) : Int) := by push_cast; rfl
  refine ⟨fun c2 => S_copy (gi rfl) i1 (by omega) ?_, fun c2 => ?_⟩
  · have c2 := hU.mp c2
    have hs62 : x.toNat < 2 ^ 62 := by omega
    have ex : x = (x.toNat : Int) := by omega
    rw [i2]
    have main := upN (n := gn (a.1 s.toNat).1 (a.1 s.toNat).2.1) (P := fun e => ∀ γ1, CI m γ1 a → γ1 (146 + 4 * s.toNat) = a.1 s.toNat → γ1 2 = ((a.1 s.toNat).1, (a.1 s.toNat).2.1, smP (a.1 s.toNat) x.toNat e) → hd_X8_loops_42 E (k + 5) s x x (146 + 4 * s.toNat) (xrk (a.1 s.toNat) e : Int) (e : Int) m γ1 t Q) ?_ ?_ 0 (Nat.zero_le _)
    · refine main _ (hC.nx (Or.inl rfl)) (by rw [up_ne (by omega)]; exact i2) ?_
      rw [up_self, smP_0]
    · intro γ1 hC1 g1 g2
      have hxl := xrk_le (G := a.1 s.toNat) (gn (a.1 s.toNat).1 (a.1 s.toNat).2.1)
      refine vc_X8_loops_42 hs hx hx i1 (by omega) (by omega) (S_edges i1 (fun _ => ?_))
      rw [g1]
      have g2' : γ1 2 = smo (a.1 s.toNat) x.toNat := by rw [g2, smP_end]; rfl
      refine ⟨fun q => absurd q (by omega), fun _ => S_traceN hC1 (by rw [g2']; exact nG_smo i4) (fun m2 hv hC2 hT2 hr2 => ⟨rfl, S_strandsN hT2 ?_⟩)⟩
      have := hQ m2 _ hC2 hr2
      rw [ift_t ⟨c1, c2⟩] at this
      rw [g2'] at this ⊢
      exact this
    · intro e he ih γ1 hC1 g1 g2
      have hxl := xrk_le (G := a.1 s.toNat) e
      have hxs := xrk_succ (G := a.1 s.toNat) (e := e)
      have hu : ∀ G, up γ1 2 G (146 + 4 * s.toNat) = a.1 s.toNat := fun G => by rw [up_ne (by omega)]; exact g1
      refine vc_X8_loops_42 hs hx hx i1 (by omega) (by omega) (S_edges i1 (fun _ => ?_))
      rw [g1]
      refine ⟨fun _ => S_isCrossG e i1 rfl (by rw [g1]; exact he) (fun c3 => b1 ?_) (fun c3 => b0 ?_), fun q => absurd (show (e : Int) < (gn (a.1 s.toNat).1 (a.1 s.toNat).2.1 : Int) by omega) q⟩
      · rw [g1] at c3
        rw [if_pos c3] at hxs
        have hb : lcI (lAnd (lUshr x (xrk (a.1 s.toNat) e : Int)) 1) 1 = 0 ↔ x.toNat.testBit (xrk (a.1 s.toNat) e) = true := by
          have h0 := tbitU (s := x.toNat) (n := xrk (a.1 s.toNat) e) hs62 (by omega)
          rw [← ex] at h0
          exact h0
        have he2 : e < gn (γ1 2).1 (γ1 2).2.1 := by rw [g2]; exact he
        refine ⟨fun c4 => S_change e (gi rfl) rfl he2 (by omega) ?_, fun c4 => S_change e (gi rfl) rfl he2 (by omega) ?_⟩
        · have := ih _ (hC1.nx (G := ((γ1 2).1, (γ1 2).2.1, up (γ1 2).2.2 e 3)) (Or.inl rfl)) (hu _) (by rw [up_self, g2]; dsimp only; rw [smP_put he c3 (by rw [if_pos (hb.mp c4)])])
          rw [hxs] at this
          exact this
        · have := ih _ (hC1.nx (G := ((γ1 2).1, (γ1 2).2.1, up (γ1 2).2.2 e 2)) (Or.inl rfl)) (hu _) (by rw [up_self, g2]; dsimp only; rw [smP_put he c3 (by rw [if_neg (fun z => c4 (hb.mpr z))])])
          rw [hxs] at this
          exact this
      · rw [g1] at c3
        rw [if_neg c3] at hxs
        have := ih γ1 hC1 g1 (by rw [g2, smP_skip c3])
        rw [hxs] at this
        exact this
  · have := hQ m γ hC (fun _ _ => rfl)
    rw [ift_f (fun h => c2 (hU.mpr h.2))] at this
    exact this
theorem S_saves {Q : MM → GM → am_H → Prop} {G : GV} (h : RG m G) (hQ : ∀ m1, fr [183] [] m m1 → (∀ e, e < gn G.1 G.2.1 → m1 183 e = G.2.2 e) → Q m1 γ t) : TV E k 264 [.ref 158] m γ t Q := by
  have hle := h.le
  refine vc_X9_saves ?_
  refine upN (n := gn G.1 G.2.1) (P := fun i => ∀ m1, fr [183] [] m m1 → (∀ e, e < i → m1 183 e = G.2.2 e) → hd_X9_saves_2 E k (i : Int) m1 γ t Q) ?_ ?_ 0 (Nat.zero_le _) m fr.refl (fun s hs => absurd hs (Nat.not_lt_zero _))
  · intro m1 hf hr
    have h1 := (h.fr hf (by decide) (by decide) (by decide) (by decide) (by decide) (by decide) (by decide)).1.2.2.1
    exact vc_X9_saves_2 (by omega) ⟨fun q => absurd q (by omega), fun _ => hQ m1 hf hr⟩
  · intro i hi ih m1 hf hr
    have h1 := h.fr hf (by decide) (by decide) (by decide) (by decide) (by decide) (by decide) (by decide)
    refine vc_X9_saves_2 (by omega) ⟨fun _ => ⟨by omega, by omega, ih _ (hf.upa 183 (by decide) (by decide)) (fun s hs => ?_)⟩, fun q => absurd (by rw [h1.1.2.2.1]; omega) q⟩
    rw [up_self, Int.toNat_natCast, h1.2.1 i hi]
    unfold up
    split
    · next e => rw [e]
    · exact hr s (by omega)
/-- what a set raises, up to an edge -/
def raP (G : GV) (set i : Nat) : Int := sumN (fun e => if G.2.2 e = 0 ∨ G.2.2 e = 1 then (if (G.2.2 e = 0 ∧ set.testBit (xrk G e) = true) ∨ (G.2.2 e = 1 ∧ set.testBit (xrk G e) = false) then 1 else -1) else 0) i
theorem raP_rai {G : GV} {set : Nat} : ∀ i, raP G set i = 2 * sumN (fun e => if (G.2.2 e = 0 ∧ set.testBit (xrk G e) = true) ∨ (G.2.2 e = 1 ∧ set.testBit (xrk G e) = false) then 1 else 0) i - (cnt G.2.2 0 i + cnt G.2.2 1 i)
  | 0 => rfl
  | i + 1 => by
    have ih := raP_rai (G := G) (set := set) i
    unfold raP at ih ⊢
    simp only [sumN, cnt]
    generalize sumN (fun e => if G.2.2 e = 0 ∨ G.2.2 e = 1 then (if (G.2.2 e = 0 ∧ set.testBit (xrk G e) = true) ∨ (G.2.2 e = 1 ∧ set.testBit (xrk G e) = false) then (1 : Int) else -1) else 0) i = A at *
    generalize sumN (fun e => if (G.2.2 e = 0 ∧ set.testBit (xrk G e) = true) ∨ (G.2.2 e = 1 ∧ set.testBit (xrk G e) = false) then (1 : Int) else 0) i = B at *
    by_cases c0 : G.2.2 i = 0
    · simp only [c0]
      cases set.testBit (xrk G i) <;> simp <;> omega
    · by_cases c1 : G.2.2 i = 1
      · simp only [c1]
        cases set.testBit (xrk G i) <;> simp <;> omega
      · simp [c0, c1]
        omega
theorem raP_rg (G : GV) (set : Nat) (i : Nat) : -(i : Int) ≤ raP G set i ∧ raP G set i ≤ i := by
  have := sumN_rg (f := fun e => if G.2.2 e = 0 ∨ G.2.2 e = 1 then (if (G.2.2 e = 0 ∧ set.testBit (xrk G e) = true) ∨ (G.2.2 e = 1 ∧ set.testBit (xrk G e) = false) then (1 : Int) else -1) else 0) (lo := -1) (hi := 1) (fun e => by split; split <;> omega; omega) i
  unfold raP
  omega
theorem S_loopsBy {Q : Int → MM → GM → am_H → Prop} {G : GV} {x : Int} (set : Nat) (hS : RSh m G.1 G.2.1) (hv : vG G) (h0 : 0 < G.1) (h183 : ∀ e, e < gn G.1 G.2.1 → m 183 e = G.2.2 e) (hx : x = (set : Int)) (hs : set < 2 ^ 62) (hQ : ∀ m1, fr [162, 166, 167, 168, 169, 170] [16, 17, 18, 19, 41] m m1 → RG m1 (smo G set) → RS m1 (smo G set) → m1 158 41 = 2 * rai G set - nX G → Q (lps G set : Int) m1 γ t) : TI E (k + 3) 266 [.ref 158, .long (lI x)] m γ t Q := by
  subst hx
  have hle := hv.1.le
  have hgn := gn_le _ hle.1 _ hle.2
  refine vc_X9_loopsBy (by omega) ?_
  refine upN (n := gn G.1 G.2.1) (P := fun e => ∀ m1, fr [162] [41] m m1 → (∀ e', e' < e → m1 162 e' = (smo G set).2.2 e') → m1 158 41 = raP G set e → hd_X9_loopsBy_10 E (k + 2) (set : Int) (set : Int) (xrk G e : Int) (e : Int) m1 γ t Q) ?_ ?_ 0 (Nat.zero_le _) _ (fr.refl.upf (by decide)) (fun e' h => absurd h (Nat.not_lt_zero _)) (by rw [up_self, up_self]; rfl)
  · intro m1 hf hr h41
    have hxl := xrk_le (G := G) (gn G.1 G.2.1)
    have hS1 := hS.fr hf (by decide) (by decide) (by decide) (by decide) (by decide) (by decide)
    have h6 := hS1.2.2.1
    refine vc_X9_loopsBy_10 (by omega) (by omega) (by omega) (by omega) ⟨fun q => absurd q (by omega), fun _ => ?_⟩
    have hG1 : RG m1 (smo G set) := ⟨hS1, hr, vG_smo hv, h0⟩
    refine S_goes hG1 (fun m2 hf2 hS2 => ?_)
    rw [hS2.2.2]
    refine hQ m2 ((hf.mono (by decide) (by decide)).trans (hf2.mono (by decide) (by decide))) (hG1.fr hf2 (by decide) (by decide) (by decide) (by decide) (by decide) (by decide) (by decide)) hS2 ?_
    rw [hf2.2 41 (by decide), h41, raP_rai]
    rfl
  · intro e he ih m1 hf hr h41
    have hxl := xrk_le (G := G) e
    have hxs := xrk_succ (G := G) (e := e)
    have hrg := raP_rg G set e
    have hke := hv.2 e he
    have hS1 := hS.fr hf (by decide) (by decide) (by decide) (by decide) (by decide) (by decide)
    have h6 := hS1.2.2.1
    have e183 : m1 183 e = G.2.2 e := by rw [hf.1 183 (by decide) (by decide)]; exact h183 e he
    have hb := tbitS (s := set) (n := xrk G e) hs (by omega)
    have h162 : ∀ d : Int, d = (smo G set).2.2 e → ∀ e', e' < e + 1 → up (m1 162) e d e' = (smo G set).2.2 e' := fun d hd e' he' => by
      unfold up
      split
      · next q => rw [q, hd]
      · exact hr e' (by omega)
    have hsm : (smo G set).2.2 e = if G.2.2 e = 0 ∨ G.2.2 e = 1 then (if set.testBit (xrk G e) then 3 else 2) else G.2.2 e := by
      show (if e < gn G.1 G.2.1 ∧ (G.2.2 e = 0 ∨ G.2.2 e = 1) then _ else _) = _
      by_cases c : G.2.2 e = 0 ∨ G.2.2 e = 1
      · rw [if_pos ⟨he, c⟩, if_pos c]
      · rw [if_neg (fun q => c q.2), if_neg c]
    have hra : raP G set (e + 1) = raP G set e + (if G.2.2 e = 0 ∨ G.2.2 e = 1 then (if (G.2.2 e = 0 ∧ set.testBit (xrk G e) = true) ∨ (G.2.2 e = 1 ∧ set.testBit (xrk G e) = false) then 1 else -1) else 0) := rfl
    refine vc_X9_loopsBy_10 (by omega) (by omega) (by omega) (by omega) ⟨fun _ => ?_, fun q => absurd (by rw [h6]; omega) q⟩
    rw [Int.toNat_natCast, e183]
    refine ⟨by omega, S_isCross (by omega) (fun c => b1 ?_) (fun c => b0 ⟨by omega, by omega, ?_⟩)⟩
    · rw [if_pos c] at hxs hsm hra
      have go : ∀ (d v : Int), d = (if set.testBit (xrk G e) then 3 else 2) → v = raP G set (e + 1) → hd_X9_loopsBy_10 E (k + 2) (set : Int) (set : Int) ((xrk G e : Int) + 1) ((e : Int) + 1) (up (up m1 162 (up (m1 162) e d)) 158 (up (m1 158) 41 v)) γ t Q := by
        intro d v hd hv'
        have := ih (up (up m1 162 (up (m1 162) e d)) 158 (up (m1 158) 41 v)) ((hf.upa 162 (by decide) (by decide)).up8 (fun j hj => by rw [up_ne (show j ≠ 41 from fun q => hj (by rw [q]; decide))]; rfl)) (h162 d (hd.trans hsm.symm)) (by rw [up_self, up_self]; exact hv')
        rw [hxs] at this
        exact this
      rw [h41, e183]
      refine ⟨fun c2 => ⟨by omega, by omega, fun c3 => ⟨by omega, go _ _ ?_ ?_⟩, fun c3 => ⟨by omega, go _ _ ?_ ?_⟩⟩, fun c2 => ⟨by omega, by omega, fun c3 => ⟨by omega, go _ _ ?_ ?_⟩, fun c3 => ⟨by omega, go _ _ ?_ ?_⟩⟩⟩
      · rw [if_pos (hb.mp c2)]
      · rw [hra, if_pos (Or.inl ⟨c3, hb.mp c2⟩)]
      · rw [if_pos (hb.mp c2)]
      · rw [hra, if_neg (fun q => by rw [hb.mp c2] at q; rcases q with q | q; exact c3 q.1; exact absurd q.2 (by decide))]
      · rw [if_neg (fun q => c2 (hb.mpr q))]
      · rw [hra, if_neg (fun q => by rcases q with q | q; exact c2 (hb.mpr q.2); have := q.1; omega)]
      · rw [if_neg (fun q => c2 (hb.mpr q))]
      · rw [hra, if_pos (Or.inr ⟨by omega, by rw [Bool.eq_false_iff]; exact fun q => c2 (hb.mpr q)⟩)]
    · rw [if_neg c] at hxs hsm hra
      rw [e183]
      have := ih (up m1 162 (up (m1 162) e (G.2.2 e))) (hf.upa 162 (by decide) (by decide)) (h162 _ hsm.symm) (by rw [hra, Int.add_zero]; exact h41)
      rw [hxs] at this
      exact this
theorem R_loops {Q : Int → MM → GM → am_H → Prop} {s x : Int} (hR : RI m a) (hs : rJ s) (hx : rK x) (hQ : ∀ m1, fr SL SF m m1 → Q (v_loops a s x) m1 γ t) : TI E (k + 6) 267 [.ref 158, .int (iI s), .long (lI x)] m γ t Q := by
  unfold v_loops at hQ
  refine vc_X9_loops hs hx (S_isLaid hR hs (fun c => b0 ?_) (fun m1 c hf hG hS hP => b1 ?_))
  · have := hQ m fr.refl
    rw [ift_f (fun h => c h.1)] at this
    exact this
  have hle := hG.le
  have h24 := cnt2_le (a.1 s.toNat).2.2 (gn (a.1 s.toNat).1 (a.1 s.toNat).2.1)
  refine S_crosses hG.1.2.2.1 (by omega) ?_
  rw [cnt_how hG 0, cnt_how hG 1]
  have eX : cnt (a.1 s.toNat).2.2 0 (gn (a.1 s.toNat).1 (a.1 s.toNat).2.1) + cnt (a.1 s.toNat).2.2 1 (gn (a.1 s.toNat).1 (a.1 s.toNat).2.1) = ((nX (a.1 s.toNat)).toNat : Int) := by
    show nX (a.1 s.toNat) = _
    have : 0 ≤ nX (a.1 s.toNat) := h24.1
    omega
  have h25 : (nX (a.1 s.toNat)).toNat < 25 := by omega
  rw [eX, (shs_D _ h25).2.2.1]
  have hp : (2 : Nat) ^ (nX (a.1 s.toNat)).toNat ≤ 2 ^ 24 := Nat.pow_le_pow_right (by decide) (by omega)
  have ep : (2 : Int) ^ (nX (a.1 s.toNat)).toNat = ((2 ^ (nX (a.1 s.toNat)).toNat : Nat) : Int) := by push_cast; rfl
  have hp0 : 0 < (2 : Nat) ^ (nX (a.1 s.toNat)).toNat := Nat.pow_pos (by decide)
  refine S_in hx (by omega) (by omega) (fun c2 => b1 (S_saves hG (fun m2 hf2 h183 => ?_))) (fun c2 => b0 ?_)
  · have hG2 := hG.fr hf2 (by decide) (by decide) (by decide) (by decide) (by decide) (by decide) (by decide)
    refine S_loopsBy x.toNat hG2.1 hG2.2.2.1 hG2.2.2.2 h183 (by omega) (by omega) (fun m3 hf3 hG3 hS3 h41 => ?_)
    have := hQ m3 ((hf.trans (hf2.mono (by decide) (by decide))).trans (hf3.mono (by decide) (by decide)))
    rw [ift_t ⟨c, by omega⟩] at this
    exact this
  · have := hQ m1 hf
    rw [ift_f (fun h => c2 (by have := h.2; omega))] at this
    exact this
end LO
