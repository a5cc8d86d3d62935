/-! ===== settings, bracket, smooth: the class, but for go ===== -/
theorem wys_tal {G : GV} (n : Nat) (h12 : nX G ≤ 12) : sumN (fun r => tal G r n) 13 = wys G (n : Int) (2 ^ (nX G).toNat) := by
  unfold tal wys
  generalize 2 ^ (nX G).toNat = i
  induction i with
  | zero =>
    show sumN (fun _ => 0) 13 = 0
    exact sumN_zero 13
  | succ i ih =>
    have r1 := rai_rg (G := G) (set := i)
    obtain ⟨r0, hr0⟩ : ∃ r0 : Nat, rai G i = (r0 : Int) := ⟨(rai G i).toNat, by omega⟩
    have e1 : sumN (fun r => sumN (fun set => if rai G set = (r : Int) ∧ lps G set = n then (1 : Int) else 0) (i + 1)) 13 = sumN (fun r => sumN (fun set => if rai G set = (r : Int) ∧ lps G set = n then (1 : Int) else 0) i + (if r = r0 ∧ lps G i = n then 1 else 0)) 13 := by
      refine sumN_congr (fun r hr => ?_)
      show sumN (fun set => if rai G set = (r : Int) ∧ lps G set = n then (1 : Int) else 0) i + (if rai G i = (r : Int) ∧ lps G i = n then 1 else 0) = _
      refine ad_r ?_
      by_cases c : r = r0 ∧ lps G i = n
      · rw [if_pos c, if_pos (by omega)]
      · rw [if_neg c, if_neg (by omega)]
    rw [e1, sumN_add, ih]
    show _ = sumN (fun set => if (lps G set : Int) = (n : Int) then (1 : Int) else 0) i + (if (lps G i : Int) = (n : Int) then 1 else 0)
    refine ad_r ?_
    by_cases c : lps G i = n
    · rw [sumN_one (i := r0) (fun r hr => if_neg (fun z => hr z.1)), if_pos (by omega), if_pos ⟨rfl, c⟩, if_pos (by omega)]
    · rw [sumN_congr (g := fun _ => 0) (fun r _ => if_neg (fun z => c z.2)), sumN_zero, if_neg (by omega)]
theorem wys_far {G : GV} (hG : vG G) {n : Int} (h : 16 < n) (i : Nat) : wys G n i = 0 := by
  unfold wys
  rw [sumN_congr (g := fun _ => 0) (fun e _ => if_neg (fun z => by have := lps16 hG e; omega)), sumN_zero]
def GO (E : am_E) (K : Nat) : Prop := ∀ (m : MM) (γ : GM) (t : am_H) (a : AST) (s : Int) (Q : MM → GM → am_H → Prop), CI m γ a → isG a.1 s → nX (a.1 s.toNat) ≤ 12 → (∀ m1 γ1, CI m1 γ1 a → γ1 29 = a.1 s.toNat → rsame m m1 → Q m1 γ1 t) → TV E K 59 [.ref 28, .ref (146 + 4 * s.toNat)] m γ t Q
section CS
variable {E : am_E} {k : Nat} {m : MM} {γ : GM} {t : am_H} {a : AST} {Q : Int → MM → GM → am_H → Prop}
theorem S_waysWith {G : GV} {n : Int} (hS : SE m γ) (hγ : γ 29 = G) (h0 : 0 < G.1) (hG : vG G) (h12 : nX G ≤ 12) (hn : rJ n) (hn0 : 0 ≤ n) (hQ : Q (wys G n (2 ^ (nX G).toNat)) m γ t) : TI E k 60 [.ref 28, .int (iI n)] m γ t Q := by
  have hS2 := (hS.2 (by rw [hγ]; exact h0)).1
  rw [hγ] at hS2
  refine vc_X5_waysWith hn ⟨fun c => absurd c (by omega), fun _ => ⟨fun c => ?_, fun c => ?_⟩⟩
  · obtain ⟨n', rfl⟩ : ∃ n' : Nat, n = (n' : Int) := ⟨n.toNat, by omega⟩
    rw [← wys_tal n' h12] at hQ
    have hp : (2 : Nat) ^ (nX G).toNat ≤ 2 ^ 12 := Nat.pow_le_pow_right (by decide) (by omega)
    have hrg := sumN_rg (f := fun r => tal G r n') (lo := 0) (hi := 4096) (fun r => by
      have := sumN_rg (f := fun set => if rai G set = (r : Int) ∧ lps G set = n' then (1 : Int) else 0) (lo := 0) (hi := 1) (fun e => by split <;> omega) (2 ^ (nX G).toNat)
      unfold tal
      omega)
    refine upN (n := 13) (P := fun r => hd_X5_waysWith_14 E k (n' : Int) (n' : Int) (sumN (fun r => tal G r n') r) (r : Int) m γ t Q) ?_ (fun r hr ih => ?_) 0 (Nat.zero_le _)
    · have := hrg 13
      exact vc_X5_waysWith_14 hn hn (by omega) (by omega) ⟨fun z => absurd z (by omega), fun _ => hQ⟩
    · have := hrg r
      refine vc_X5_waysWith_14 hn hn (by omega) (by omega) ⟨fun _ => ⟨by omega, by omega, ?_⟩, fun z => absurd (by omega) z⟩
      rw [Int.toNat_natCast, Int.toNat_natCast, hS2 r hr n' (by omega)]
      exact ih
  · rw [wys_far hG (by omega)] at hQ
    exact hQ
theorem S_term {G : GV} {d : Int} (hS : SE m γ) (hγ : γ 29 = G) (h0 : 0 < G.1) (hG : vG G) (h12 : nX G ≤ 12) (hd : rJ d) (hQ : Q (trm G d) m γ t) : TL E k 61 [.ref 28, .int (iI d)] m γ t Q := by
  have hS2 := (hS.2 (by rw [hγ]; exact h0)).2
  rw [hγ] at hS2
  refine vc_X5_term hd ⟨fun c => ?_, fun c => ⟨fun c2 => ⟨by omega, ?_⟩, fun c2 => ?_⟩⟩
  · rw [trm_brk hG h0 h12, brk_far hG h12 (by omega)] at hQ
    exact hQ
  · rw [hS2 _ (by omega), show (((d + 100).toNat : Nat) : Int) - 100 = d by omega]
    exact hQ
  · rw [trm_brk hG h0 h12, brk_far hG h12 (by omega)] at hQ
    exact hQ
theorem S_hasTerm {g : Nat} {d : Int} (hg : isg g) (hd : rJ d) (q1 : (-100 ≤ d ∧ d ≤ 100) ∧ nX (γ g) ≤ 12 → Q 1 m γ t) (q0 : ¬ ((-100 ≤ d ∧ d ≤ 100) ∧ nX (γ g) ≤ 12) → Q 0 m γ t) : TI E (k + 3) 180 [.ref g, .int (iI d)] m γ t Q :=
  vc_X8_hasTerm hg hd ⟨fun c => q0 (fun h => by omega), fun c => ⟨fun c2 => S_gcrosses hg (fun _ => ⟨fun c3 => q1 (by omega), fun c3 => q0 (fun h => c3 h.2)⟩), fun c2 => q0 (fun h => by omega)⟩⟩
theorem C_settings {s n : Int} (hgo : GO E (k + 5)) (hC : CI m γ a) (hs : rJ s) (hn : rJ n) (hQ : ∀ m1 γ1, CI m1 γ1 a → rsame m m1 → Q (v_settings a s n) m1 γ1 t) : TI E (k + 6) 155 [.ref 0, .int (iI s), .int (iI n)] m γ t Q := by
  unfold v_settings at hQ
  have hQ0 := hQ m γ hC (fun _ _ => rfl)
  refine vc_X8_settings hs hn (S_gridIn hC hs (fun c1 => oN ?_) (fun c1 => oSm ?_))
  · rw [ift_f (fun h => c1 h.1)] at hQ0
    exact hQ0
  obtain ⟨i1, i2, i3, i4, i5, -⟩ := c1.i hC
  refine ⟨i1, fun c2 => ?_, fun c2 => S_gcrosses i1 (fun _ => ?_)⟩
  · rw [ift_f (fun h => by have := h.2; omega)] at hQ0
    exact hQ0
  · rw [i2]
    refine ⟨fun c3 => hgo m γ t a s _ hC c1 c3 (fun m1 γ1 hC1 h29 hr => S_waysWith hC1.2.2.1 h29 i5 i3 c3 hn (by omega) ?_), fun c3 => ?_⟩
    · have := hQ m1 γ1 hC1 hr
      rw [ift_t ⟨c1, by omega⟩, ift_t c3] at this
      exact this
    · rw [ift_t ⟨c1, by omega⟩, ift_f c3] at hQ0
      exact hQ0
theorem C_bracket {s d : Int} (hgo : GO E (k + 5)) (hC : CI m γ a) (hs : rJ s) (hd : rJ d) (hQ : ∀ m1 γ1, CI m1 γ1 a → rsame m m1 → Q (v_bracket a s d) m1 γ1 t) : TL E (k + 6) 156 [.ref 0, .int (iI s), .int (iI d)] m γ t Q := by
  unfold v_bracket at hQ
  have hQ0 := hQ m γ hC (fun _ _ => rfl)
  refine vc_X8_bracket hs hd (S_gridIn hC hs (fun c1 => oN ?_) (fun c1 => oSm ?_))
  · rw [ift_f (fun h => c1 h.1)] at hQ0
    exact hQ0
  obtain ⟨i1, i2, i3, i4, i5, -⟩ := c1.i hC
  refine ⟨i1, S_hasTerm i1 hd (fun c2 => b1 ?_) (fun c2 => b0 ?_)⟩
  · rw [i2] at c2
    refine hgo m γ t a s _ hC c1 c2.2 (fun m1 γ1 hC1 h29 hr => S_term hC1.2.2.1 h29 i5 i3 c2.2 hd ?_)
    have := hQ m1 γ1 hC1 hr
    rw [ift_t ⟨c1, c2⟩] at this
    exact this
  · rw [i2] at c2
    rw [ift_f (fun h => c2 h.2)] at hQ0
    exact hQ0
theorem C_smooth {s d : Int} (hgo : GO E (k + 5)) (hC : CI m γ a) (hs : rJ s) (hd : rJ d) (hQ : ∀ m1 γ1, CI m1 γ1 a → rsame m m1 → Q (v_smooth a s d) m1 γ1 t) : TL E (k + 6) 157 [.ref 0, .int (iI s), .int (iI d)] m γ t Q := by
  unfold v_smooth at hQ
  have hQ0 := hQ m γ hC (fun _ _ => rfl)
  refine vc_X8_smoothB hs hd (S_gridIn hC hs (fun c1 => oN ?_) (fun c1 => oSm ?_))
  · rw [ift_f (fun h => c1 h.1)] at hQ0
    exact hQ0
  obtain ⟨i1, i2, i3, i4, i5, i6, i7, i8⟩ := c1.i hC
  have hgn := gn_le _ i6 _ i8
  refine ⟨i1, S_hasTerm i1 hd (fun c2 => b1 ?_) (fun c2 => b0 ?_)⟩
  · rw [i2] at c2
    refine hgo m γ t a s _ hC c1 c2.2 (fun m1 γ1 hC1 h29 hr => S_traceOf hC1 c1 (fun m2 γ2 hC2 hT hγ hr2 hg2 => ⟨rfl, S_signsOfAll hT i3 hγ ?_⟩))
    have hw := sumN_rg (fun e => sg_rg (a.1 s.toNat) e) (gn (a.1 s.toNat).1 (a.1 s.toNat).2.1)
    have hw2 : sga (a.1 s.toNat) = sumN (sg (a.1 s.toNat)) (gn (a.1 s.toNat).1 (a.1 s.toNat).2.1) := rfl
    refine S_term hC2.2.2.1 ((hg2 29 (by decide)).trans h29) i5 i3 c2.2 (by omega) ?_
    have := hQ m2 γ2 hC2 (fun b hb => (hr2 b hb).trans (hr b hb))
    rw [ift_t ⟨c1, c2⟩] at this
    unfold smV at this
    have br := brk_rg i3 c2.2 i5 (d := d + 3 * sga (a.1 s.toNat))
    rw [← trm_brk i3 i5 c2.2] at br
    rw [bAnd1 (by omega)]
    refine ⟨fun c3 => ?_, fun c3 => ⟨by omega, ?_⟩⟩
    · rw [if_pos c3] at this
      exact this
    · rw [if_neg c3] at this
      exact this
  · rw [i2] at c2
    rw [ift_f (fun h => c2 h.2)] at hQ0
    exact hQ0
end CS
