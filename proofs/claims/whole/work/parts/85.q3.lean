/-! ===== interlaced, visits, painted ===== -/
def btw (G : GV) (e : Nat) (p : Int) : Bool := decide (oP G e < p) != decide (uP G e < p)
noncomputable def v_interlaced (a : AST) (s e f : Int) : Int := ift (isE a s e ∧ isE a s f) (ift (e ≠ f ∧ own (a.1 s.toNat) e.toNat ≠ -1 ∧ own (a.1 s.toNat) e.toNat = own (a.1 s.toNat) f.toNat) (if btw (a.1 s.toNat) e.toNat (oP (a.1 s.toNat) f.toNat) = btw (a.1 s.toNat) e.toNat (uP (a.1 s.toNat) f.toNat) then 0 else 1) (-1)) (-2)
def visF (G : GV) (s : Nat) : Nat → Int
  | 0 => 0
  | n + 1 => bOr (visF G s n) (bShl 1 (tO G (bg G s + n) / 4))
noncomputable def v_visits (a : AST) (s x : Int) : Int := ift (isT a s x) (visF (a.1 s.toNat) x.toNat (ln (a.1 s.toNat) x.toNat)) (-2)
theorem visF_rg (G : GV) (s n : Nat) : rJ (visF G s n) := by
  cases n
  · show rJ (0 : Int)
    decide
  · exact i32_rg _
theorem tO_rg {G : GV} (hG : vG G) {j : Nat} (hj : j < nC G) : 0 ≤ tO G j ∧ tO G j < nC G := by
  have hl : j < (aG G).1.length := by rw [out_len hG]; exact hj
  have h1 : tO G j = (((aG G).1[j]).2.2.1 : Int) := lsF_in (List.getElem?_eq_getElem hl)
  have h2 := ent_lt hG (List.getElem_mem hl)
  omega
def pin (G : GV) (c : Nat) : Int := sumN (fun j => tP G (4 * c + j) % 2) 4
def pai (G : GV) (col : Int) (k : Int) : Int := sumN (fun c => if (if col = 0 then ((c / G.2.1 : Nat) : Int) else ((c % G.2.1 : Nat) : Int)) = k then pin G c else 0) (G.1 * G.2.1)
noncomputable def v_painted (a : AST) (s col k : Int) : Int := ift (isG a.1 s ∧ (col = 0 ∨ col = 1) ∧ 0 ≤ k ∧ k < (if col = 0 then ((a.1 s.toNat).1 : Int) else ((a.1 s.toNat).2.1 : Int))) (pai (a.1 s.toNat) col k) (-2)
theorem pin_rg (G : GV) (c : Nat) : 0 ≤ pin G c ∧ pin G c ≤ 4 := by
  have := sumN_rg (f := fun j => tP G (4 * c + j) % 2) (lo := 0) (hi := 1) (fun e => by omega) 4
  unfold pin
  omega
section C5
variable {E : am_E} {k : Nat} {m : MM} {γ : GM} {t : am_H} {a : AST} {Q : Int → MM → GM → am_H → Prop} {G : GV}
theorem S_isBetween {z p : Int} (e : Nat) (hT : TrOK m G) (hG : vG G) (hz : z = (e : Int)) (he : e < gn G.1 G.2.1) (hp : rJ p) (hQ : Q (if btw G e p then 1 else 0) m γ t) : TI E (k + 1) 120 [.ref 10, .int (iI z), .int (iI p)] m γ t Q := by
  have hgn := gn_le _ hG.1.le.1 _ hG.1.le.2
  subst hz
  unfold btw at hQ
  refine vc_X7_isBetween (by omega) hp (S_at 24 rfl rfl rfl (by decide) (by omega) (fun _ => ?_))
  rw [atn_in (by omega), (hT.2.2.2.1 e he).1]
  refine ⟨fun c1 => S_at 24 rfl rfl rfl (by decide) (by omega) (fun _ => ?_), fun c1 => S_at 24 rfl rfl rfl (by decide) (by omega) (fun _ => ?_)⟩
  · rw [atn_in (by omega), (hT.2.2.2.1 e he).2]
    rw [decide_eq_false (show ¬ oP G e < p by omega)] at hQ
    refine ⟨fun c2 => ?_, fun c2 => ?_⟩
    · rw [decide_eq_false (show ¬ uP G e < p by omega)] at hQ
      exact hQ
    · rw [decide_eq_true (show uP G e < p by omega)] at hQ
      exact hQ
  · rw [atn_in (by omega), (hT.2.2.2.1 e he).2]
    rw [decide_eq_true (show oP G e < p by omega)] at hQ
    refine ⟨fun c2 => ?_, fun c2 => ?_⟩
    · rw [decide_eq_false (show ¬ uP G e < p by omega)] at hQ
      exact hQ
    · rw [decide_eq_true (show uP G e < p by omega)] at hQ
      exact hQ
theorem oP_rg (hG : vG G) {e : Nat} (he : e < gn G.1 G.2.1) : -1 ≤ oP G e ∧ oP G e < 48 ∧ -1 ≤ uP G e ∧ uP G e < 48 ∧ -1 ≤ oS G e ∧ oS G e < nS G ∧ -1 ≤ uS G e ∧ uS G e < nS G := by
  have hP := nP_le hG
  by_cases hx : crX G e
  · obtain ⟨y, hy, -, -, h1, h2, -⟩ := xo hG he hx
    obtain ⟨z, hz, -, -, h1', h2', -⟩ := xu hG he hx
    have l1 := (pas_idx hy).2
    have l2 := (pas_idx hz).2
    have l3 := (pas_strand hG hy).1
    have l4 := (pas_strand hG hz).1
    omega
  · obtain ⟨h1, h2, h3, h4⟩ := xn hG hx
    omega
theorem S_areInTurn {z1 z2 : Int} (e f : Nat) (hT : TrOK m G) (hG : vG G) (hz1 : z1 = (e : Int)) (hz2 : z2 = (f : Int)) (he : e < gn G.1 G.2.1) (hf : f < gn G.1 G.2.1) (hQ : Q (if btw G e (oP G f) = btw G e (uP G f) then 0 else 1) m γ t) : TI E (k + 2) 119 [.ref 10, .int (iI z1), .int (iI z2)] m γ t Q := by
  have hgn := gn_le _ hG.1.le.1 _ hG.1.le.2
  have hr := oP_rg hG hf
  subst hz1 hz2
  refine vc_X7_areInTurn (by omega) (by omega) (S_at 24 rfl rfl rfl (by decide) (by omega) (fun _ => ?_))
  rw [atn_in (by omega), (hT.2.2.2.1 f hf).1]
  refine S_isBetween e hT hG rfl he (by omega) (S_at 24 rfl rfl rfl (by decide) (by omega) (fun _ => ?_))
  rw [atn_in (by omega), (hT.2.2.2.1 f hf).2]
  refine S_isBetween e hT hG rfl he (by omega) ?_
  cases h1 : btw G e (oP G f) <;> cases h2 : btw G e (uP G f) <;> rw [h1, h2] at hQ <;> simp at hQ ⊢ <;> exact hQ
theorem C_interlaced {s e f : Int} (hC : CI m γ a) (hs : rJ s) (he : rJ e) (hf : rJ f) (hQ : ∀ m1 γ1, CI m1 γ1 a → rsame m m1 → Q (v_interlaced a s e f) m1 γ1 t) : TI E (k + 6) 149 [.ref 0, .int (iI s), .int (iI e), .int (iI f)] m γ t Q := by
  unfold v_interlaced at hQ
  have hQ0 := hQ m γ hC (fun _ _ => rfl)
  refine vc_X8_interlaced hs he hf (S_gridIn hC hs (fun c1 => oN ?_) (fun c1 => oSm ?_))
  · rw [ift_f (fun h => c1 h.1.1)] at hQ0
    exact hQ0
  · obtain ⟨i1, i2, i3, -⟩ := c1.i hC
    refine ⟨i1, S_hasEdge i1 he (fun c2 => b1 (S_hasEdge i1 hf (fun c3 => b1 (S_traceOf hC c1 (fun m1 γ1 hC1 hT hγ hr _ => ⟨rfl, ?_⟩))) (fun c3 => b0 ?_))) (fun c2 => b0 ?_)⟩
    · rw [i2] at c2 c3
      have := hQ m1 γ1 hC1 hr
      rw [ift_t ⟨⟨c1, c2⟩, ⟨c1, c3⟩⟩] at this
      refine S_ownerOf e.toNat hT i3 (by omega) (by omega) ⟨fun c4 => ?_, fun c4 => ⟨fun c5 => ?_, fun c5 => S_ownerOf f.toNat hT i3 (by omega) (by omega) ⟨fun c6 => ?_, fun c6 => ?_⟩⟩⟩
      · rw [ift_f (fun h => h.1 c4)] at this
        exact this
      · rw [ift_f (fun h => h.2.1 c5)] at this
        exact this
      · rw [ift_t ⟨c4, c5, c6⟩] at this
        refine S_areInTurn e.toNat f.toNat hT i3 (by omega) (by omega) (by omega) (by omega) ?_
        split
        · next h => rw [if_pos h] at this; exact b0 this
        · next h => rw [if_neg h] at this; exact b1 this
      · rw [ift_f (fun h => c6 h.2.2)] at this
        exact this
    · rw [i2] at c3
      rw [ift_f (fun h => c3 h.2.2)] at hQ0
      exact hQ0
    · rw [i2] at c2
      rw [ift_f (fun h => c2 h.1.2)] at hQ0
      exact hQ0
theorem S_cellsOn {z : Int} (s : Nat) (hT : TrOK m G) (hG : vG G) (hz : z = (s : Int)) (hs : s < nS G) (hQ : Q (visF G s (ln G s)) m γ t) : TI E (k + 3) 121 [.ref 10, .int (iI z)] m γ t Q := by
  have h64 := nC_le64 hG
  have hn := nS_nC G
  have hb := bg_lt hG hs
  have hb2 := bg_le hG (show s + 1 ≤ nS G by omega)
  have hl : ln G s = bg G (s + 1) - bg G s := rfl
  subst hz
  refine vc_X7_cellsOn (by omega) ?_
  refine upN (n := ln G s) (P := fun i => hd_X7_cellsOn_4 E (k + 2) (s : Int) (s : Int) (visF G s i) (i : Int) m γ t Q) ?_ ?_ 0 (Nat.zero_le _)
  · exact vc_X7_cellsOn_4 (by omega) (by omega) (visF_rg _ _ _) (by omega) (S_cornersOn s hT hG rfl hs ⟨fun c => absurd c (by omega), fun c => hQ⟩)
  · intro i hi ih
    refine vc_X7_cellsOn_4 (by omega) (by omega) (visF_rg _ _ _) (by omega) (S_cornersOn s hT hG rfl hs ⟨fun c => S_cornerOn s hT hG rfl hs (by omega) (fun c2 => ?_) (fun c2 => absurd (by omega) c2), fun c => absurd c (by omega)⟩)
    rw [Int.toNat_natCast]
    exact ⟨(tO_rg hG (show bg G s + i < nC G by omega)).1, ih⟩
theorem C_visits {s x : Int} (hC : CI m γ a) (hs : rJ s) (hx : rJ x) (hQ : ∀ m1 γ1, CI m1 γ1 a → rsame m m1 → Q (v_visits a s x) m1 γ1 t) : TI E (k + 6) 150 [.ref 0, .int (iI s), .int (iI x)] m γ t Q := by
  unfold v_visits at hQ
  refine vc_X8_visits hs hx (S_traceOfStrand hC hs hx (fun c1 m1 γ1 hC1 hr => oN ?_) (fun c1 c2 m1 γ1 hC1 hT hγ hr => oSm ⟨rfl, ?_⟩))
  · have := hQ m1 γ1 hC1 hr
    rw [ift_f (show ¬ isT a s x from c1)] at this
    exact this
  · have := hQ m1 γ1 hC1 hr
    rw [ift_t ⟨c1, c2⟩] at this
    exact S_cellsOn x.toNat hT (c1.i hC).2.2.1 (by omega) (by omega) this
theorem S_paintIn {z : Int} (c : Nat) (hT : TrOK m G) (hG : vG G) (hz : z = (c : Int)) (hc : c < G.1 * G.2.1) (hQ : Q (pin G c) m γ t) : TI E (k + 2) 104 [.ref 10, .int (iI z)] m γ t Q := by
  have hle := hG.1.le
  have hRC : G.1 * G.2.1 ≤ 4 * 4 := Nat.mul_le_mul hle.1 hle.2
  subst hz
  refine vc_X7_paintIn (by omega) ?_
  have hr := sumN_rg (f := fun j => tP G (4 * c + j) % 2) (lo := 0) (hi := 1) (fun e => by omega)
  refine upN (n := 4) (P := fun i => hd_X7_paintIn_4 E (k + 1) (c : Int) (c : Int) (sumN (fun j => tP G (4 * c + j) % 2) i) (i : Int) m γ t Q) ?_ ?_ 0 (by decide)
  · have := hr 4
    exact vc_X7_paintIn_4 (by omega) (by omega) (by omega) (by omega) ⟨fun q => absurd q (by omega), fun _ => hQ⟩
  · intro i hi ih
    have := hr i
    refine vc_X7_paintIn_4 (by omega) (by omega) (by omega) (by omega) ⟨fun _ => ?_, fun q => absurd (by omega) q⟩
    exact S_paintAt (4 * c + i) hT hG (by omega) (by unfold nC; omega) ih
theorem C_painted {s col kk : Int} (hC : CI m γ a) (hs : rJ s) (hc : rJ col) (hk : rJ kk) (hQ : ∀ m1 γ1, CI m1 γ1 a → rsame m m1 → Q (v_painted a s col kk) m1 γ1 t) : TI E (k + 6) 153 [.ref 0, .int (iI s), .int (iI col), .int (iI kk)] m γ t Q := by
  unfold v_painted at hQ
  have hQ0 := hQ m γ hC (fun _ _ => rfl)
  refine vc_X8_painted hs hc hk (S_gridIn hC hs (fun c1 => oN ?_) (fun c1 => oSm ?_))
  · rw [ift_f (fun h => c1 h.1)] at hQ0
    exact hQ0
  · obtain ⟨i1, i2, i3, i4, i5, i6, i7, i8⟩ := c1.i hC
    have hRC : (a.1 s.toNat).1 * (a.1 s.toNat).2.1 ≤ 4 * 4 := Nat.mul_le_mul i6 i8
    have go : ((col = 0 ∨ col = 1) ∧ 0 ≤ kk ∧ kk < (if col = 0 then ((a.1 s.toNat).1 : Int) else ((a.1 s.toNat).2.1 : Int))) → TA E (k + 5) 186 [.ref 0, .ref (146 + 4 * s.toNat)] m γ t (fun o8 m8 γ8 t8 => o8 = some 10 ∧ (hd_X8_painted_64 E (k + 5) s col kk col kk (146 + 4 * s.toNat) 0 0 m8 γ8 t8 Q)) := by
      intro hok
      refine S_traceOf hC c1 (fun m1 γ1 hC1 hT hγ hr hg => ⟨rfl, ?_⟩)
      have hfin := hQ m1 γ1 hC1 hr
      rw [ift_t ⟨c1, hok⟩] at hfin
      have e2 : γ1 (146 + 4 * s.toNat) = a.1 s.toNat := by rw [hg _ (by omega)]; exact i2
      have hr1 := fun n => sumN_rg (f := fun c => if (if col = 0 then ((c / (a.1 s.toNat).2.1 : Nat) : Int) else ((c % (a.1 s.toNat).2.1 : Nat) : Int)) = kk then pin (a.1 s.toNat) c else 0) (lo := 0) (hi := 4) (fun c => by have := pin_rg (a.1 s.toNat) c; split <;> omega) n
      refine upN (n := (a.1 s.toNat).1 * (a.1 s.toNat).2.1) (P := fun c => hd_X8_painted_64 E (k + 5) s col kk col kk (146 + 4 * s.toNat) (sumN (fun c => if (if col = 0 then ((c / (a.1 s.toNat).2.1 : Nat) : Int) else ((c % (a.1 s.toNat).2.1 : Nat) : Int)) = kk then pin (a.1 s.toNat) c else 0) c) (c : Int) m1 γ1 t Q) ?_ ?_ 0 (Nat.zero_le _)
      · have := hr1 ((a.1 s.toNat).1 * (a.1 s.toNat).2.1)
        refine vc_X8_painted_64 hs hc hk hc hk i1 (by omega) (by omega) (S_gcells i1 (fun _ => ?_))
        rw [e2]
        exact ⟨fun q => absurd q (by omega), fun _ => hfin⟩
      · intro c hcl ih
        have := hr1 c
        refine vc_X8_painted_64 hs hc hk hc hk i1 (by omega) (by omega) (S_gcells i1 (fun _ => ?_))
        rw [e2]
        simp only [sumN] at ih
        refine ⟨fun _ => ⟨fun q1 => S_rowOf c i1 rfl (by rw [e2]; exact i7) (by omega) ?_, fun q1 => S_columnOf c i1 rfl (by rw [e2]; exact i7) (by omega) ?_⟩, fun q => absurd (by omega) q⟩
        · rw [e2]
          rw [if_pos q1] at ih
          refine ⟨fun q2 => S_paintIn c hT i3 rfl hcl ?_, fun q2 => ?_⟩
          · rw [if_pos q2] at ih
            exact ih
          · rw [if_neg q2, Int.add_zero] at ih
            exact ih
        · rw [e2]
          rw [if_neg q1] at ih
          refine ⟨fun q2 => S_paintIn c hT i3 rfl hcl ?_, fun q2 => ?_⟩
          · rw [if_pos q2] at ih
            exact ih
          · rw [if_neg q2, Int.add_zero] at ih
            exact ih
    refine ⟨i1, S_isBit hc (fun c2 => b1 ⟨fun c3 => ?_, fun c3 => ⟨fun c4 => S_rows i1 (fun _ => ?_), fun c4 => S_columns i1 (fun _ => ?_)⟩⟩) (fun c2 => b0 ?_)⟩
    · rw [ift_f (fun h => by have := h.2.2.1; omega)] at hQ0
      exact hQ0
    · rw [i2]
      refine ⟨fun c5 => go ⟨c2, by omega, by rw [if_pos c4]; exact c5⟩, fun c5 => ?_⟩
      rw [ift_f (fun h => by have := h.2.2.2; rw [if_pos c4] at this; exact c5 this)] at hQ0
      exact hQ0
    · rw [i2]
      refine ⟨fun c5 => go ⟨c2, by omega, by rw [if_neg c4]; exact c5⟩, fun c5 => ?_⟩
      rw [ift_f (fun h => by have := h.2.2.2; rw [if_neg c4] at this; exact c5 this)] at hQ0
      exact hQ0
    · rw [ift_f (fun h => c2 h.2.1)] at hQ0
      exact hQ0
end C5
