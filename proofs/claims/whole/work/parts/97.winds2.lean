/-! ===== winds, both sides ===== -/
def gx (G : GV) (s i : Nat) : Nat × Bool := ((aG G).1[bg G s + i]?.getD (0, 0, 0, true)).2.2
theorem gx_ok {G : GV} (hG : vG G) {s i : Nat} (hs : s < nS G) (hi : i < ln G s) : (gx G s i).1 < nC G ∧ tO G (bg G s + i) = ((gx G s i).1 : Int) ∧ tW G (gx G s i).1 = pm (gx G s i).2 ∧ tF G (gx G s i).1 = bb (gx G s i).2 := by
  obtain ⟨c0, h1, h2, h3⟩ := str_cyc hG hs
  have h4 := h3 i hi
  have e1 : gx G s i = nxi G i (c0, true) := by
    unfold gx
    rw [h4]
    rfl
  have hm := List.mem_of_getElem? h4
  rw [e1]
  have f1 := fu_ent hG (v := fun x => pm x.2.2.2) (F := fun _ => 0) hm
  have f2 := fu_ent hG (v := fun x => bb x.2.2.2) (F := fun _ => 0) hm
  exact ⟨ent_lt hG hm, lsF_in h4, f1, f2⟩
theorem gx_nx {G : GV} (hG : vG G) {s : Nat} (hs : s < nS G) : ∃ x, x.1 < nC G ∧ nxi G (ln G s) x = x ∧ ∀ i, i < ln G s → gx G s i = nxi G i x := by
  obtain ⟨c0, h1, h2, h3⟩ := str_cyc hG hs
  refine ⟨(c0, true), h1, ?_, fun i hi => ?_⟩
  · rw [h2]
    exact (len_ok hG h1).2.2.1
  · unfold gx
    rw [h3 i hi]
    rfl
def ccC (G : GV) (r0 c0 : Int) (x : Nat × Bool) : Int := wC r0 c0 ((x.1 / 4 / G.2.1 : Nat) : Int) ((x.1 / 4 % G.2.1 : Nat) : Int) ((x.1 % 4 : Nat) : Int) (pm x.2)
def crR (G : GV) (r0 c0 : Int) (x : Nat × Bool) : Int := wR (2 * c0 + 1) (2 * r0 + 1) (pX G.2.1 (x.1 / 4) (exs x.1 (!x.2))) (pY G.2.1 (x.1 / 4) (exs x.1 (!x.2))) (pX G.2.1 (x.1 / 4) (exs x.1 x.2)) (pY G.2.1 (x.1 / 4) (exs x.1 x.2))
def hX (G : GV) (r0 c0 : Int) (x : Nat × Bool) : Int := gpt (2 * c0 + 1) (2 * r0 + 1) (pX G.2.1 (x.1 / 4) (exs x.1 (!x.2))) (pY G.2.1 (x.1 / 4) (exs x.1 (!x.2)))
theorem exs_m (c : Nat) (b : Bool) : exs (c % 4) b = exs c b := by
  unfold exs
  cases b <;> simp <;> omega
theorem cCR {G : GV} (hG : vG G) (r0 c0 : Int) {x : Nat × Bool} (hx : x.1 < nC G) : ccC G r0 c0 x - crR G r0 c0 x = hX G r0 c0 (nx G x) - hX G r0 c0 x := by
  have h := wCR r0 c0 ((x.1 / 4 / G.2.1 : Nat) : Int) ((x.1 / 4 % G.2.1 : Nat) : Int) (x.1 % 4) (by omega) x.2
  rw [exs_m, exs_m] at h
  have hp := nx_pt hG hx
  unfold ccC crR hX
  rw [← hp.1, ← hp.2]
  exact h
theorem cCR_sum {G : GV} (hG : vG G) (r0 c0 : Int) {x : Nat × Bool} (hx : x.1 < nC G) : ∀ n, sumN (fun i => ccC G r0 c0 (nxi G i x)) n - sumN (fun i => crR G r0 c0 (nxi G i x)) n = hX G r0 c0 (nxi G n x) - hX G r0 c0 x
  | 0 => by simp [sumN, nxi]
  | n + 1 => by
    have h1 := cCR_sum hG r0 c0 hx n
    have h2 := cCR hG r0 c0 (nxi_lt hG hx n)
    show sumN (fun i => ccC G r0 c0 (nxi G i x)) n + ccC G r0 c0 (nxi G n x) - (sumN (fun i => crR G r0 c0 (nxi G i x)) n + crR G r0 c0 (nxi G n x)) = hX G r0 c0 (nx G (nxi G n x)) - hX G r0 c0 x
    omega
theorem wind_eq {G : GV} (hG : vG G) (r0 c0 : Int) {s : Nat} (hs : s < nS G) : sumN (fun i => ccC G r0 c0 (gx G s i)) (ln G s) = sumN (fun i => crR G r0 c0 (gx G s i)) (ln G s) := by
  obtain ⟨x, h1, h2, h3⟩ := gx_nx hG hs
  have h4 := cCR_sum hG r0 c0 h1 (ln G s)
  rw [h2] at h4
  rw [sumN_congr (g := fun i => ccC G r0 c0 (nxi G i x)) (fun e he => by rw [h3 e he]), sumN_congr (f := fun i => crR G r0 c0 (gx G s i)) (g := fun i => crR G r0 c0 (nxi G i x)) (fun e he => by rw [h3 e he])]
  omega
theorem cC_rg (G : GV) (r0 c0 : Int) (x : Nat × Bool) : -1 ≤ ccC G r0 c0 x ∧ ccC G r0 c0 x ≤ 1 := by
  unfold ccC wC pm
  cases x.2 <;> simp <;> (repeat' split) <;> omega
theorem crR_rg (G : GV) (r0 c0 : Int) (x : Nat × Bool) : -1 ≤ crR G r0 c0 x ∧ crR G r0 c0 x ≤ 1 := by
  unfold crR wR
  (repeat' split) <;> omega
section WI
variable {E : am_E} {k : Nat} {m : MM} {γ : GM} {t : am_H} {Q : Int → MM → GM → am_H → Prop} {a : AST}
noncomputable def v_winds (a : AST) (s x c : Int) : Int := ift (isT a s x ∧ 0 ≤ c ∧ c < (((a.1 s.toNat).1 * (a.1 s.toNat).2.1 : Nat) : Int)) (sumN (fun i => ccC (a.1 s.toNat) ((c.toNat / (a.1 s.toNat).2.1 : Nat) : Int) ((c.toNat % (a.1 s.toNat).2.1 : Nat) : Int) (gx (a.1 s.toNat) x.toNat i)) (ln (a.1 s.toNat) x.toNat)) (-1000)
theorem S_turnsRound {G : GV} {z y : Int} (s c : Nat) (hT : TrOK m G) (hG : vG G) (h1 : 1 ≤ G.2.1) (hγ : γ 11 = G) (hz : z = (s : Int)) (hs : s < nS G) (hy : y = (c : Int)) (hc : c < 16) (hQ : Q (sumN (fun i => ccC G ((c / G.2.1 : Nat) : Int) ((c % G.2.1 : Nat) : Int) (gx G s i)) (ln G s)) m γ t) : TI E (k + 3) 122 [.ref 10, .int (iI z), .int (iI y)] m γ t Q := by
  have h64 := nC_le64 hG
  have hn := nS_nC G
  have hb2 := bg_le hG (show s + 1 ≤ nS G by omega)
  have hl : ln G s = bg G (s + 1) - bg G s := rfl
  subst hz hy
  refine vc_X7_turnsRound (by omega) (by omega) (S_rowOf c (gi rfl) rfl (by rw [hγ]; exact h1) (by omega) (S_columnOf c (gi rfl) rfl (by rw [hγ]; exact h1) (by omega) ?_))
  rw [hγ]
  refine upN (P := fun i => hd_X7_turnsRound_25 E (k + 2) (s : Int) (c : Int) (s : Int) ((c / G.2.1 : Nat) : Int) ((c % G.2.1 : Nat) : Int) (sumN (fun i => ccC G ((c / G.2.1 : Nat) : Int) ((c % G.2.1 : Nat) : Int) (gx G s i)) i) (i : Int) m γ t Q) (n := ln G s) ?_ (fun i hi ih => ?_) 0 (Nat.zero_le _)
  · have hr := sumN_rg (fun e => cC_rg G ((c / G.2.1 : Nat) : Int) ((c % G.2.1 : Nat) : Int) (gx G s e)) (ln G s)
    have d1 := Nat.div_le_self c G.2.1
    have d3 : (0 : Int) ≤ ((c / G.2.1 : Nat) : Int) := Int.natCast_nonneg _
    have d4 : (0 : Int) ≤ ((c % G.2.1 : Nat) : Int) := Int.natCast_nonneg _
    have d2 := Nat.mod_le c G.2.1
    refine vc_X7_turnsRound_25 (by omega) (by omega) (by omega) (by omega) (by omega) (by omega) (by omega) (S_cornersOn s hT hG rfl hs ⟨fun q => absurd q (by omega), fun _ => hQ⟩)
  · have hr := sumN_rg (fun e => cC_rg G ((c / G.2.1 : Nat) : Int) ((c % G.2.1 : Nat) : Int) (gx G s e)) i
    have d1 := Nat.div_le_self c G.2.1
    have d3 : (0 : Int) ≤ ((c / G.2.1 : Nat) : Int) := Int.natCast_nonneg _
    have d4 : (0 : Int) ≤ ((c % G.2.1 : Nat) : Int) := Int.natCast_nonneg _
    have d2 := Nat.mod_le c G.2.1
    have key : ∀ v w, v = sumN (fun i => ccC G ((c / G.2.1 : Nat) : Int) ((c % G.2.1 : Nat) : Int) (gx G s i)) (i + 1) → w = ((i + 1 : Nat) : Int) → hd_X7_turnsRound_25 E (k + 2) (s : Int) (c : Int) (s : Int) ((c / G.2.1 : Nat) : Int) ((c % G.2.1 : Nat) : Int) v w m γ t Q := by
      intro v w hv hw
      rw [hv, hw]
      exact ih
    have hst : sumN (fun i => ccC G ((c / G.2.1 : Nat) : Int) ((c % G.2.1 : Nat) : Int) (gx G s i)) (i + 1) = sumN (fun i => ccC G ((c / G.2.1 : Nat) : Int) ((c % G.2.1 : Nat) : Int) (gx G s i)) i + ccC G ((c / G.2.1 : Nat) : Int) ((c % G.2.1 : Nat) : Int) (gx G s i) := rfl
    obtain ⟨g1, g2, g3, g4⟩ := gx_ok hG hs hi
    have hcc : ccC G ((c / G.2.1 : Nat) : Int) ((c % G.2.1 : Nat) : Int) (gx G s i) = wC ((c / G.2.1 : Nat) : Int) ((c % G.2.1 : Nat) : Int) (((gx G s i).1 / 4 / G.2.1 : Nat) : Int) (((gx G s i).1 / 4 % G.2.1 : Nat) : Int) (((gx G s i).1 % 4 : Nat) : Int) (tW G (gx G s i).1) := by
      rw [g3]
      rfl
    refine vc_X7_turnsRound_25 (by omega) (by omega) (by omega) (by omega) (by omega) (by omega) (by omega) (S_cornersOn s hT hG rfl hs ⟨fun _ => ?_, fun q => absurd (show (i : Int) < ln G s by omega) q⟩)
    refine S_cornerOn s hT hG rfl hs (by omega) (fun _ => ?_) (fun q => absurd (show 0 ≤ (i : Int) ∧ (i : Int) < ln G s by omega) q)
    rw [Int.toNat_natCast, g2]
    refine ⟨by omega, S_columnOf ((gx G s i).1 / 4) (gi rfl) (by omega) (by rw [hγ]; exact h1) (by omega) ⟨by omega, S_rowOf ((gx G s i).1 / 4) (gi rfl) (by omega) (by rw [hγ]; exact h1) (by omega) ?_⟩⟩
    rw [hγ]
    have AT : ∀ {R : Int → MM → GM → am_H → Prop}, R (tW G (gx G s i).1) m γ t → TI E (k + 2) 182 [.ref 17, .int (iI ((gx G s i).1 : Int))] m γ t R := fun hR => by
      refine S_at 64 rfl rfl rfl (by decide) (by omega) (fun _ => ?_)
      rw [atn_in (by omega), (hT.1 _ g1).2.2.1]
      exact hR
    generalize tW G (gx G s i).1 = ee at hcc AT
    generalize (gx G s i).1 / 4 / G.2.1 = rr at hcc
    generalize (gx G s i).1 / 4 % G.2.1 = ll at hcc
    rw [hcc] at hst
    unfold wC at hst
    refine ⟨fun c1 => ⟨by omega, fun c2 => ⟨fun c3 => ⟨by omega, fun c4 => ⟨fun c5 => key _ _ ?_ (by omega), fun c5 => AT (key _ _ ?_ (by omega))⟩, fun c4 => key _ _ ?_ (by omega)⟩, fun c3 => AT ⟨by omega, fun c4 => ⟨fun c5 => key _ _ ?_ (by omega), fun c5 => AT (key _ _ ?_ (by omega))⟩, fun c4 => key _ _ ?_ (by omega)⟩⟩, fun c2 => ⟨by omega, fun c4 => ⟨fun c5 => key _ _ ?_ (by omega), fun c5 => AT (key _ _ ?_ (by omega))⟩, fun c4 => key _ _ ?_ (by omega)⟩⟩, fun c1 => key _ _ ?_ (by omega)⟩ <;> (rw [hst]; (repeat' split) <;> omega)
theorem C_winds {s x c : Int} (hC : CI m γ a) (hs : rJ s) (hx : rJ x) (hc : rJ c) (hQ : ∀ m1 γ1, CI m1 γ1 a → rsame m m1 → Q (v_winds a s x c) m1 γ1 t) : TI E (k + 6) 151 [.ref 0, .int (iI s), .int (iI x), .int (iI c)] m γ t Q := by
  unfold v_winds at hQ
  refine vc_X8_winds hs hx hc (S_traceOfStrand hC hs hx (fun c1 m1 γ1 hC1 hr => oN ?_) (fun c1 c2 m1 γ1 hC1 hT hγ hr => oSm ⟨rfl, ?_⟩))
  · have := hQ m1 γ1 hC1 hr
    rw [ift_f (fun h => c1 h.1)] at this
    exact this
  · have := hQ m1 γ1 hC1 hr
    obtain ⟨-, -, i3, -, i5, i6, i7, i8⟩ := c1.i hC
    refine S_hasCell hC1 hs hc (fun c3 c4 => b1 ?_) (fun c3 => b0 ?_)
    · rw [ift_t ⟨⟨c1, c2⟩, c4⟩] at this
      have h16 : (a.1 s.toNat).1 * (a.1 s.toNat).2.1 ≤ 16 := Nat.mul_le_mul i6 i8
      exact S_turnsRound x.toNat c.toNat hT i3 i7 hγ (by omega) (by omega) (by omega) (by omega) this
    · rw [ift_f (fun h => c3 ⟨c1, h.2⟩)] at this
      exact this
theorem S_sideX {z y : Int} (c s : Nat) {C : Nat} (h5 : m 158 5 = (C : Int)) (hC : 1 ≤ C ∧ C ≤ 4) (hz : z = (c : Int)) (hy : y = (s : Int)) (hc : c < 100) (hs : s < 4) (hQ : Q (pX C c s) m γ t) : TI E k 259 [.ref 158, .int (iI z), .int (iI y)] m γ t Q := by
  subst hz hy
  refine vc_X9_sideX (by omega) (by omega) ?_
  unfold W_X9_sideX
  unfold pX at hQ
  rw [h5]
  have h1 := Nat.mod_lt c (show C > 0 by omega)
  have e1 : (c : Int) % (C : Int) = ((c % C : Nat) : Int) := by omega
  rw [e1]
  generalize c % C = q at *
  refine ⟨by omega, by omega, fun c1 => ⟨by omega, ?_⟩, fun c1 => ⟨fun c2 => ⟨by omega, ?_⟩, fun c2 => ⟨by omega, ?_⟩⟩⟩
  · rw [if_pos (by omega)] at hQ
    exact hQ
  · rw [if_neg (by omega), if_pos (by omega)] at hQ
    exact hQ
  · rw [if_neg (by omega), if_neg (by omega)] at hQ
    exact hQ
theorem S_sideY {z y : Int} (c s : Nat) {C : Nat} (h5 : m 158 5 = (C : Int)) (hC : 1 ≤ C ∧ C ≤ 4) (hz : z = (c : Int)) (hy : y = (s : Int)) (hc : c < 100) (hs : s < 4) (hQ : Q (pY C c s) m γ t) : TI E k 260 [.ref 158, .int (iI z), .int (iI y)] m γ t Q := by
  subst hz hy
  refine vc_X9_sideY (by omega) (by omega) ?_
  unfold W_X9_sideY
  unfold pY at hQ
  rw [h5]
  have h1 := Nat.div_le_self c C
  have e1 : (c : Int) / (C : Int) = ((c / C : Nat) : Int) := by omega
  rw [e1]
  generalize c / C = q at *
  refine ⟨by omega, by omega, fun c1 => ⟨by omega, ?_⟩, fun c1 => ⟨fun c2 => ⟨by omega, ?_⟩, fun c2 => ⟨by omega, ?_⟩⟩⟩
  · rw [if_pos (by omega)] at hQ
    exact hQ
  · rw [if_neg (by omega), if_pos (by omega)] at hQ
    exact hQ
  · rw [if_neg (by omega), if_neg (by omega)] at hQ
    exact hQ
theorem pX_rg {C c s : Nat} (hC : 1 ≤ C ∧ C ≤ 4) : 0 ≤ pX C c s ∧ pX C c s ≤ 8 := by
  have := Nat.mod_lt c (show C > 0 by omega)
  unfold pX
  generalize c % C = q at *
  (repeat' split) <;> omega
theorem pY_rg {C c s : Nat} (hc : c < 16) : 0 ≤ pY C c s ∧ pY C c s ≤ 32 := by
  have := Nat.div_le_self c C
  unfold pY
  generalize c / C = q at *
  (repeat' split) <;> omega
theorem mul_rg {x y : Int} (hx : -100 ≤ x ∧ x ≤ 100) (hy : -100 ≤ y ∧ y ≤ 100) : -10000 ≤ x * y ∧ x * y ≤ 10000 := by
  have h1 : 0 ≤ (100 - x) * (100 + y) := Int.mul_nonneg (by omega) (by omega)
  have h2 : 0 ≤ (100 + x) * (100 - y) := Int.mul_nonneg (by omega) (by omega)
  have h3 : 0 ≤ (100 - x) * (100 - y) := Int.mul_nonneg (by omega) (by omega)
  have h4 : 0 ≤ (100 + x) * (100 + y) := Int.mul_nonneg (by omega) (by omega)
  simp only [Int.sub_mul, Int.add_mul, Int.mul_sub, Int.mul_add] at h1 h2 h3 h4
  omega
theorem R_winds {s x c : Int} (hR : RI m a) (hs : rJ s) (hx : rJ x) (hc : rJ c) (hQ : ∀ m1, fr SL SF m m1 → Q (v_winds a s x c) m1 γ t) : TI E (k + 6) 261 [.ref 158, .int (iI s), .int (iI x), .int (iI c)] m γ t Q := by
  unfold v_winds at hQ
  refine vc_X9_winds hs hx hc (S_isStrand hR hs hx (fun m1 c1 hf => b0 ?_) (fun m1 c1 c2 hf hG hS hP => b1 ?_))
  · have := hQ m1 hf
    rw [ift_f (fun h => c1 h.1)] at this
    exact this
  have := hQ m1 hf
  clear hQ
  have cT : isT a s x := ⟨c1, c2⟩
  generalize a.1 s.toNat = G at *
  obtain ⟨h4, h5, h6, -⟩ := hG.1
  have hle := hG.2.2.1.1.le
  have hsh := hG.le
  have h16 : G.1 * G.2.1 ≤ 16 := Nat.mul_le_mul hle.1 hle.2
  have h16' : ((G.1 * G.2.1 : Nat) : Int) ≤ 16 := by omega
  have h17 : (0 : Int) ≤ ((G.1 * G.2.1 : Nat) : Int) := Int.natCast_nonneg _
  generalize hRC : ((G.1 * G.2.1 : Nat) : Int) = rc at *
  refine S_cells hG.1 hle.1 hle.2 ?_
  rw [hRC]
  refine ⟨by omega, S_in (by omega) (by omega) (by omega) (fun c3 => b1 ?_) (fun c3 => b0 ?_)⟩
  · rw [ift_t ⟨cT, by omega⟩] at this
    obtain ⟨s', rfl⟩ : ∃ n : Nat, x = (n : Int) := ⟨x.toNat, by omega⟩
    obtain ⟨d, rfl⟩ : ∃ n : Nat, c = (n : Int) := ⟨c.toNat, by omega⟩
    have hs' : s' < nS G := by omega
    simp only [Int.toNat_natCast] at this ⊢
    have hv := hG.2.2.1
    rw [wind_eq hv _ _ hs'] at this
    have h64 := nC_le64 hv
    have hn := nS_nC G
    have hb1 := bg_lt hv hs'
    have hb2 := bg_le hv (show s' + 1 ≤ nS G by omega)
    have hl : ln G s' = bg G (s' + 1) - bg G s' := rfl
    have d1 := Nat.div_le_self d G.2.1
    have d2 := Nat.mod_le d G.2.1
    rw [h5, hS.2.1 s' (by omega), tB_bg (by omega) hv]
    have e1 : (d : Int) % (G.2.1 : Int) = ((d % G.2.1 : Nat) : Int) := by omega
    have e2 : (d : Int) / (G.2.1 : Int) = ((d / G.2.1 : Nat) : Int) := by omega
    rw [e1, e2]
    generalize d % G.2.1 = dc at *
    generalize d / G.2.1 = dr at *
    refine ⟨by omega, by omega, by omega, by omega, by omega, ?_⟩
    refine upN (P := fun i => hd_X9_winds_64 E (k + 5) s (s' : Int) (d : Int) (s' : Int) (2 * (dc : Int) + 1) (2 * (dr : Int) + 1) (sumN (fun i => crR G (dr : Int) (dc : Int) (gx G s' i)) i) ((bg G s' : Int) + (i : Int)) m1 γ t Q) (n := ln G s') ?_ (fun i hi ih => ?_) 0 (Nat.zero_le _)
    · have hr := sumN_rg (fun e => crR_rg G (dr : Int) (dc : Int) (gx G s' e)) (ln G s')
      refine vc_X9_winds_64 hs (by omega) (by omega) (by omega) (by omega) (by omega) (by omega) (by omega) ?_
      refine ⟨by omega, fun q => ?_, fun q => this⟩
      rw [show ((s' : Int) + 1).toNat = s' + 1 by omega, hS.2.1 (s' + 1) (by omega), tB_bg (by omega) hv] at q
      omega
    · have hr := sumN_rg (fun e => crR_rg G (dr : Int) (dc : Int) (gx G s' e)) i
      obtain ⟨g1, g2, g3, g4⟩ := gx_ok hv hs' hi
      have key : ∀ v w, v = sumN (fun i => crR G (dr : Int) (dc : Int) (gx G s' i)) (i + 1) → w = (bg G s' : Int) + ((i + 1 : Nat) : Int) → hd_X9_winds_64 E (k + 5) s (s' : Int) (d : Int) (s' : Int) (2 * (dc : Int) + 1) (2 * (dr : Int) + 1) v w m1 γ t Q := by
        intro v w hv hw
        rw [hv, hw]
        exact ih
      have hst : sumN (fun i => crR G (dr : Int) (dc : Int) (gx G s' i)) (i + 1) = sumN (fun i => crR G (dr : Int) (dc : Int) (gx G s' i)) i + crR G (dr : Int) (dc : Int) (gx G s' i) := rfl
      have hq4 : (gx G s' i).1 / 4 < 16 := by omega
      have mid : ∀ y11 y12 y8 : Int, y8 = (((gx G s' i).1 / 4 : Nat) : Int) → y11 = (exs (gx G s' i).1 (!(gx G s' i).2) : Int) → y12 = (exs (gx G s' i).1 (gx G s' i).2 : Int) → hd_X9_winds_149 E (k + 5) s (s' : Int) (d : Int) (s' : Int) (2 * (dc : Int) + 1) (2 * (dr : Int) + 1) (sumN (fun i => crR G (dr : Int) (dc : Int) (gx G s' i)) i) ((bg G s' : Int) + (i : Int)) y8 y11 y12 m1 γ t Q := by
        intro y11 y12 y8 q8 q11 q12
        have b11 : exs (gx G s' i).1 (!(gx G s' i).2) < 4 := by unfold exs; omega
        have b12 : exs (gx G s' i).1 (gx G s' i).2 < 4 := by unfold exs; omega
        have hcr : crR G (dr : Int) (dc : Int) (gx G s' i) = wR (2 * (dc : Int) + 1) (2 * (dr : Int) + 1) (pX G.2.1 ((gx G s' i).1 / 4) (exs (gx G s' i).1 (!(gx G s' i).2))) (pY G.2.1 ((gx G s' i).1 / 4) (exs (gx G s' i).1 (!(gx G s' i).2))) (pX G.2.1 ((gx G s' i).1 / 4) (exs (gx G s' i).1 (gx G s' i).2)) (pY G.2.1 ((gx G s' i).1 / 4) (exs (gx G s' i).1 (gx G s' i).2)) := rfl
        unfold wR at hcr
        rw [hcr] at hst
        have rX1 := pX_rg (C := G.2.1) (c := (gx G s' i).1 / 4) (s := exs (gx G s' i).1 (!(gx G s' i).2)) (by omega)
        have rX2 := pX_rg (C := G.2.1) (c := (gx G s' i).1 / 4) (s := exs (gx G s' i).1 ((gx G s' i).2)) (by omega)
        have rY1 := pY_rg (C := G.2.1) (c := (gx G s' i).1 / 4) (s := exs (gx G s' i).1 (!(gx G s' i).2)) (by omega)
        have rY2 := pY_rg (C := G.2.1) (c := (gx G s' i).1 / 4) (s := exs (gx G s' i).1 ((gx G s' i).2)) (by omega)
        refine vc_X9_winds_149 hs (by omega) (by omega) (by omega) (by omega) (by omega) (by omega) (by omega) (by omega) (by omega) (by omega) (S_sideY _ _ h5 (by omega) q8 q11 (by omega) b11 (S_sideY _ _ h5 (by omega) q8 q12 (by omega) b12 (S_sideX _ _ h5 (by omega) q8 q12 (by omega) b12 (S_sideX _ _ h5 (by omega) q8 q11 (by omega) b11 (S_sideX _ _ h5 (by omega) q8 q11 (by omega) b11 ?_)))))
        generalize pX G.2.1 ((gx G s' i).1 / 4) (exs (gx G s' i).1 (!(gx G s' i).2)) = X1 at *
        generalize pX G.2.1 ((gx G s' i).1 / 4) (exs (gx G s' i).1 ((gx G s' i).2)) = X2 at *
        generalize pY G.2.1 ((gx G s' i).1 / 4) (exs (gx G s' i).1 (!(gx G s' i).2)) = Y1 at *
        generalize pY G.2.1 ((gx G s' i).1 / 4) (exs (gx G s' i).1 ((gx G s' i).2)) = Y2 at *
        have r1 := mul_rg (x := X2 - X1) (y := 2 * (dr : Int) + 1 - Y1) (by omega) (by omega)
        have r2 := mul_rg (x := 2 * (dc : Int) + 1 - X1) (y := Y2 - Y1) (by omega) (by omega)
        generalize (X2 - X1) * (2 * (dr : Int) + 1 - Y1) = A1 at *
        generalize (2 * (dc : Int) + 1 - X1) * (Y2 - Y1) = A2 at *
        have fin : ∀ v, v = (if Y1 ≤ 2 * (dr : Int) + 1 ∧ ¬ Y2 ≤ 2 * (dr : Int) + 1 ∧ ¬ A1 - A2 ≤ 0 then (1 : Int) else 0) → hd_X9_winds_241 E (k + 5) s (s' : Int) (d : Int) (s' : Int) (2 * (dc : Int) + 1) (2 * (dr : Int) + 1) (sumN (fun i => crR G (dr : Int) (dc : Int) (gx G s' i)) i + v) ((bg G s' : Int) + (i : Int)) Y1 Y2 (A1 - A2) m1 γ t Q := by
          intro v hv
          have hv2 : v = 0 ∨ v = 1 := by rw [hv]; split <;> simp
          rw [← hv] at hst
          refine vc_X9_winds_241 hs (by omega) (by omega) (by omega) (by omega) (by omega) (by omega) (by omega) (by omega) (by omega) (by omega) ⟨fun k1 => key _ _ ?_ (by omega), fun k1 => ⟨fun k2 => ⟨fun k3 => key _ _ ?_ (by omega), fun k3 => key _ _ ?_ (by omega)⟩, fun k2 => key _ _ ?_ (by omega)⟩⟩ <;> (rw [hst]; split <;> omega)
        refine vc_X9_winds_212 hs (by omega) (by omega) (by omega) (by omega) (by omega) (by omega) (by omega) (by omega) (by omega) (by omega) ⟨fun k1 => ⟨fun k2 => fin _ ?_, fun k2 => ⟨fun k3 => fin _ ?_, fun k3 => fin _ ?_⟩⟩, fun k1 => fin _ ?_⟩ <;> (split <;> omega)
      refine vc_X9_winds_64 hs (by omega) (by omega) (by omega) (by omega) (by omega) (by omega) (by omega) ?_
      unfold W_X9_winds_64
      rw [show ((s' : Int) + 1).toNat = s' + 1 by omega, hS.2.1 (s' + 1) (by omega), tB_bg (by omega) hv, show ((bg G s' : Int) + (i : Int)).toNat = bg G s' + i by omega, (hS.1 (bg G s' + i) (by omega)).2.2.2, g2, Int.toNat_natCast, (hS.1 _ g1).2.2.1, g4]
      refine ⟨by omega, fun _ => ⟨by omega, by omega, by omega, by omega, by omega, by omega, fun q => ⟨by omega, by omega, mid _ _ _ (by omega) ?_ ?_⟩, fun q => ⟨by omega, by omega, mid _ _ _ (by omega) ?_ ?_⟩⟩, fun q => absurd (show (bg G s' : Int) + (i : Int) < (bg G (s' + 1) : Int) by omega) q⟩ <;> (unfold bb at q; unfold exs; cases hb : (gx G s' i).2 <;> rw [hb] at q <;> simp at q ⊢ <;> omega)
  · rw [ift_f (fun h => c3 (by omega))] at this
    exact this
end WI
