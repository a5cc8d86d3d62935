/-! ===== the class: undo, all, under ===== -/
noncomputable def n_undo (a : AST) : AST := match a.2.1 with
  | [] => a
  | (s, p) :: r => (gset a.1 s p, r, a.2.2)
def v_undo (a : AST) : Int := match a.2.1 with
  | [] => -1
  | _ :: r => (r.length : Int)
/-- all of one kind made another; crosses turned -/
def gA (G : GV) (w v : Int) : GV := (G.1, G.2.1, fun e => if e < gn G.1 G.2.1 ∧ G.2.2 e = w then v else G.2.2 e)
def gU (G : GV) : GV := (G.1, G.2.1, fun e => if e < gn G.1 G.2.1 then tov (G.2.2 e) else G.2.2 e)
noncomputable def v_all (a : AST) (s w v : Int) : Int := ift (isG a.1 s ∧ (0 ≤ w ∧ w ≤ 3) ∧ 0 ≤ v ∧ v ≤ 3) (if w = v then 0 else cnt (a.1 s.toNat).2.2 w (gn (a.1 s.toNat).1 (a.1 s.toNat).2.1)) (-2)
noncomputable def n_all (a : AST) (s w v : Int) : AST := ifA (isG a.1 s ∧ (0 ≤ w ∧ w ≤ 3) ∧ 0 ≤ v ∧ v ≤ 3) (aput a s.toNat (gA (a.1 s.toNat) w v)) a
noncomputable def v_under (a : AST) (s : Int) : Int := ift (isG a.1 s) (nX (gU (a.1 s.toNat))) (-2)
noncomputable def n_under (a : AST) (s : Int) : AST := ifA (isG a.1 s) (aput a s.toNat (gU (a.1 s.toNat))) a
theorem gA_same {G : GV} {w : Int} : gA G w w = G := by
  unfold gA
  obtain ⟨R, C, kd⟩ := G
  simp only [Prod.mk.injEq, true_and]
  funext e
  split
  · next h => exact h.2.symm
  · rfl
theorem aput_same {a : AST} {s : Nat} : aput a s (a.1 s) = a := ifA_t rfl
section C8
variable {E : am_E} {k : Nat} {m : MM} {γ : GM} {t : am_H} {a : AST} {Q : Int → MM → GM → am_H → Prop}
theorem C_undo (hC : CI m γ a) (hQ : ∀ m1 γ1, CI m1 γ1 (n_undo a) → rsame m m1 → Q (v_undo a) m1 γ1 t) : TI E (k + 5) 173 [.ref 0] m γ t Q := by
  obtain ⟨d1, d2, top, d3, d4, d5⟩ := hC.2.2.2.2.2
  have lat : ∀ {Q' : Int → MM → GM → am_H → Prop}, Q' (((top + 9) % 10 : Nat) : Int) m γ t → TI E (k + 3) 5 [.ref 103] m γ t Q' := by
    intro Q' h
    refine vc_X0_latest ?_
    unfold W_X0_latest
    rw [d3]
    refine ⟨fun c => ?_, fun c => ⟨by omega, ?_⟩⟩
    · rw [show (((top + 9) % 10 : Nat) : Int) = 9 by omega] at h
      exact h
    · rw [show (((top + 9) % 10 : Nat) : Int) = (top : Int) - 1 by omega] at h
      exact h
  refine vc_X8_undo (vc_X0_latestSlot ?_)
  unfold W_X0_latestSlot
  rw [d1]
  cases hh : a.2.1 with
  | nil =>
    have hv : v_undo a = -1 := by unfold v_undo; rw [hh]
    have hn : n_undo a = a := by unfold n_undo; rw [hh]
    rw [hv, hn] at hQ
    exact ⟨fun c => S_CisSlot (by decide) (fun c => absurd c (by decide)) (fun _ => b0 (hQ m γ hC (fun _ _ => rfl))), fun c => absurd (by simp) c⟩
  | cons x r =>
    have hv : v_undo a = (r.length : Int) := by unfold v_undo; rw [hh]
    have hn : n_undo a = (gset a.1 x.1 x.2, r, a.2.2) := by unfold n_undo; rw [hh]
    rw [hv, hn] at hQ
    have hlen : a.2.1.length = r.length + 1 := by rw [hh]; rfl
    have h0 := d5 0 (by omega)
    have hx0 : a.2.1[0]'(by omega) = x := by simp [hh]
    rw [hx0] at h0
    obtain ⟨z1, z2, z3, z4, z5⟩ := h0
    rw [List.length_cons]
    refine ⟨fun c => absurd c (by omega), fun c => lat (S_at 10 rfl rfl rfl (by decide) (by omega) (fun _ => ?_))⟩
    rw [atn_in (by omega), show (top + 9) % 10 = (top + 9 - 0) % 10 by omega, z1]
    refine S_CisSlot (by omega) (fun c2 => b1 ⟨by omega, ?_⟩) (fun c2 => absurd (by omega) c2)
    rw [Int.toNat_natCast]
    have i1 : isg (146 + 4 * x.1) := isg_146 z3
    refine vc_X0_takeBack i1 (lat ?_)
    rw [d1, hlen]
    refine ⟨fun q => absurd q (by omega), fun _ => ⟨fun q => absurd q (by omega), fun _ => ⟨fun _ => ⟨by omega, ?_⟩, fun q => absurd (by omega) q⟩⟩⟩
    rw [Int.toNat_natCast]
    refine S_copy i1 (isg_106 (by omega)) (by omega) ⟨by omega, vc_X0_size ?_⟩
    show Q (m 103 2 - 1) _ _ t
    rw [d1, hlen, show ((r.length + 1 : Nat) : Int) - 1 = (r.length : Int) by omega]
    obtain ⟨q1, q2, q3, q4, q5, q6⟩ := hC
    rw [show (top + 9) % 10 = (top + 9 - 0) % 10 by omega, z2]
    have fm : ∀ b, b ≠ 103 → up (up m 103 (up (m 103) 3 (((top + 9 - 0) % 10 : Nat) : Int))) 103 (up (up (m 103) 3 (((top + 9 - 0) % 10 : Nat) : Int)) 2 (r.length : Int)) b = m b := fun b hb => by rw [up_ne hb, up_ne hb]
    refine hQ _ _ ⟨fun i hi => ?_, ?_, ?_, ?_, ?_, ?_⟩ (fun b hb => fm b (by omega))
    · show up γ (146 + 4 * x.1) x.2 (146 + 4 * i) = gset a.1 x.1 x.2 i ∧ vG (gset a.1 x.1 x.2 i) ∧ nG (gset a.1 x.1 x.2 i)
      by_cases hi2 : i = x.1
      · subst hi2
        rw [up_self, gset_s]
        exact ⟨rfl, z4, z5⟩
      · have : gset a.1 x.1 x.2 i = a.1 i := if_neg hi2
        rw [up_ne (by omega), this]
        exact q1 i hi
    · rw [up_ne (by omega)]
      refine ⟨q2.1, ?_⟩
      have hT := q2.2
      unfold TrOK at hT ⊢
      rw [fm 10 (by decide), fm 15 (by decide), fm 16 (by decide), fm 17 (by decide), fm 18 (by decide), fm 19 (by decide), fm 20 (by decide), fm 21 (by decide), fm 22 (by decide), fm 23 (by decide), fm 24 (by decide), fm 25 (by decide), fm 26 (by decide)]
      exact hT
    · exact q3.move ⟨fun b h1 h2 => fm b (by omega), up_ne (by omega)⟩
    · unfold TPc
      rw [fm 99 (by decide), fm 100 (by decide)]
      exact q4
    · unfold OUc
      rw [fm 101 (by decide), fm 102 (by decide)]
      exact q5
    · refine ⟨rfl, by show r.length ≤ 10; omega, (top + 9 - 0) % 10, rfl, by omega, fun i hi => ?_⟩
      have hi : i < r.length := hi
      have h1 := d5 (i + 1) (by omega)
      have hxi : a.2.1[i + 1]'(by omega) = r[i] := by simp [hh]
      rw [hxi] at h1
      rw [fm 104 (by decide), show ((top + 9 - 0) % 10 + 9 - i) % 10 = (top + 9 - (i + 1)) % 10 by omega, up_ne (by omega)]
      exact h1
theorem C_all {s w v : Int} (hC : CI m γ a) (hs : rJ s) (hw : rJ w) (hv : rJ v) (hQ : ∀ m1 γ1, CI m1 γ1 (n_all a s w v) → rsame m m1 → Q (v_all a s w v) m1 γ1 t) : TI E (k + 6) 164 [.ref 0, .int (iI s), .int (iI w), .int (iI v)] m γ t Q := by
  unfold v_all n_all at hQ
  have h0 : ¬ (isG a.1 s ∧ (0 ≤ w ∧ w ≤ 3) ∧ 0 ≤ v ∧ v ≤ 3) → Q (-2) m γ t := fun h => by
    have := hQ m γ
    rw [ift_f h, ifA_f h] at this
    exact this hC (fun _ _ => rfl)
  refine vc_X8_all hs hw hv (S_gridIn hC hs (fun c1 => oN (h0 (fun h => c1 h.1))) (fun c1 => oSm ?_))
  obtain ⟨i1, i2, i3, i4, i5, i6, i7, i8⟩ := c1.i hC
  have hgn := gn_le _ i6 _ i8
  refine ⟨i1, S_isKind hw (fun c2 => b1 (S_isKind hv (fun c3 => b1 ⟨fun c4 => ?_, fun c4 => ?_⟩) (fun c3 => b0 (h0 (fun h => c3 h.2.2))))) (fun c2 => b0 (h0 (fun h => c2 h.2.1)))⟩
  · have := hQ m γ
    rw [ift_t ⟨c1, c2, c3⟩, ifA_t ⟨c1, c2, c3⟩, if_pos c4, c4, gA_same, aput_same] at this
    exact this hC (fun _ _ => rfl)
  · refine S_copy (gi rfl) i1 (by omega) ?_
    rw [i2]
    have hr := cnt_rng (a.1 s.toNat).2.2 w
    have main := upN (n := gn (a.1 s.toNat).1 (a.1 s.toNat).2.1) (P := fun e => ∀ γ1, CI m γ1 a → γ1 (146 + 4 * s.toNat) = a.1 s.toNat → γ1 2 = ((a.1 s.toNat).1, (a.1 s.toNat).2.1, fun e' => if e' < e ∧ (a.1 s.toNat).2.2 e' = w then v else (a.1 s.toNat).2.2 e') → hd_X8_all_51 E (k + 5) s w v s w v (146 + 4 * s.toNat) (cnt (a.1 s.toNat).2.2 w e) (e : Int) m γ1 t Q) ?_ ?_ 0 (Nat.zero_le _)
    · refine main _ (hC.nx (Or.inl rfl)) (by rw [up_ne (by omega)]; exact i2) ?_
      rw [up_self]
      congr 2
    · intro γ1 hC1 g1 g2
      have := hr (gn (a.1 s.toNat).1 (a.1 s.toNat).2.1)
      refine vc_X8_all_51 hs hw hv hs hw hv i1 (by omega) (by omega) (S_edges i1 (fun _ => ?_))
      rw [g1]
      refine ⟨fun q => absurd q (by omega), fun _ => S_become hC1 ⟨c1.1, c1.2.1⟩ ?_ (fun m2 γ2 hC2 hr2 _ => ?_)⟩
      · rw [g2]
        intro e he
        have he : gn (a.1 s.toNat).1 (a.1 s.toNat).2.1 ≤ e := he
        show (if e < gn (a.1 s.toNat).1 (a.1 s.toNat).2.1 ∧ _ then v else (a.1 s.toNat).2.2 e) = 0
        rw [if_neg (fun q => by have := q.1; omega)]
        exact i4 e he
      · have := hQ m2 γ2
        rw [ift_t ⟨c1, c2, c3⟩, ifA_t ⟨c1, c2, c3⟩, if_neg c4] at this
        rw [g2] at hC2
        exact this hC2 hr2
    · intro e he ih γ1 hC1 g1 g2
      have := hr e
      refine vc_X8_all_51 hs hw hv hs hw hv i1 (by omega) (by omega) (S_edges i1 (fun _ => ?_))
      rw [g1]
      refine ⟨fun _ => S_kindOf e i1 rfl (by rw [g1]; exact he) (fun _ => ?_), fun q => absurd (by omega) q⟩
      rw [g1]
      refine ⟨fun q => S_change e (gi rfl) rfl (by rw [g2]; exact he) c3 ?_, fun q => ?_⟩
      · have h2 := ih (up γ1 2 ((γ1 2).1, (γ1 2).2.1, up (γ1 2).2.2 e v)) (hC1.nx (Or.inl rfl)) (by rw [up_ne (by omega)]; exact g1) (by
          rw [up_self, g2]
          congr 2
          funext e'
          unfold up
          by_cases hee : e' = e
          · rw [if_pos hee, if_pos ⟨by omega, by rw [hee]; exact q⟩]
          · rw [if_neg hee]
            dsimp only
            by_cases h3 : e' < e ∧ (a.1 s.toNat).2.2 e' = w
            · rw [if_pos h3, if_pos ⟨by omega, h3.2⟩]
            · rw [if_neg h3, if_neg (fun h4 => h3 ⟨by have := h4.1; omega, h4.2⟩)])
        simp only [cnt] at h2
        rw [if_pos q] at h2
        exact h2
      · have h2 := ih γ1 hC1 g1 (by
          rw [g2]
          congr 2
          funext e'
          by_cases h3 : e' < e ∧ (a.1 s.toNat).2.2 e' = w
          · rw [if_pos h3, if_pos ⟨by omega, h3.2⟩]
          · rw [if_neg h3, if_neg (fun h4 => h3 ⟨?_, h4.2⟩)]
            have h5 : e' ≠ e := fun hee => q (by rw [← hee]; exact h4.2)
            have := h4.1
            omega)
        simp only [cnt] at h2
        rw [if_neg q, Int.add_zero] at h2
        exact h2
theorem S_turnedOver {x : Int} (hx : rJ x) (hQ : Q (tov x) m γ t) : TI E k 181 [.int (iI x)] m γ t Q := by
  unfold tov at hQ
  refine vc_X8_turnedOver hx ⟨fun c => ?_, fun c => ⟨fun c2 => ?_, fun c2 => ?_⟩⟩
  · rw [if_pos c] at hQ
    exact hQ
  · rw [if_neg c, if_pos c2] at hQ
    exact hQ
  · rw [if_neg c, if_neg c2] at hQ
    exact hQ
theorem C_under {s : Int} (hC : CI m γ a) (hs : rJ s) (hQ : ∀ m1 γ1, CI m1 γ1 (n_under a s) → rsame m m1 → Q (v_under a s) m1 γ1 t) : TI E (k + 6) 165 [.ref 0, .int (iI s)] m γ t Q := by
  unfold v_under n_under at hQ
  refine vc_X8_under hs (S_gridIn hC hs (fun c1 => oN ?_) (fun c1 => oSm ?_))
  · have := hQ m γ
    rw [ift_f c1, ifA_f c1] at this
    exact this hC (fun _ _ => rfl)
  obtain ⟨i1, i2, i3, i4, i5, i6, i7, i8⟩ := c1.i hC
  have hgn := gn_le _ i6 _ i8
  refine ⟨i1, S_copy (gi rfl) i1 (by omega) ?_⟩
  rw [i2]
  have main := upN (n := gn (a.1 s.toNat).1 (a.1 s.toNat).2.1) (P := fun e => ∀ γ1, CI m γ1 a → γ1 (146 + 4 * s.toNat) = a.1 s.toNat → γ1 2 = ((a.1 s.toNat).1, (a.1 s.toNat).2.1, fun e' => if e' < e then tov ((a.1 s.toNat).2.2 e') else (a.1 s.toNat).2.2 e') → hd_X8_under_23 E (k + 5) s s (146 + 4 * s.toNat) (e : Int) m γ1 t Q) ?_ ?_ 0 (Nat.zero_le _)
  · refine main _ (hC.nx (Or.inl rfl)) (by rw [up_ne (by omega)]; exact i2) ?_
    rw [up_self]
    congr 2
  · intro γ1 hC1 g1 g2
    refine vc_X8_under_23 hs hs i1 (by omega) (S_edges i1 (fun _ => ?_))
    rw [g1]
    refine ⟨fun q => absurd q (by omega), fun _ => S_become hC1 ⟨c1.1, c1.2.1⟩ ?_ (fun m2 γ2 hC2 hr2 hg2 => S_gcrosses i1 (fun _ => ?_))⟩
    · rw [g2]
      intro e he
      have he : gn (a.1 s.toNat).1 (a.1 s.toNat).2.1 ≤ e := he
      show (if e < gn (a.1 s.toNat).1 (a.1 s.toNat).2.1 then _ else (a.1 s.toNat).2.2 e) = 0
      rw [if_neg (by omega)]
      exact i4 e he
    · have := hQ m2 γ2
      rw [ift_t c1, ifA_t c1] at this
      rw [g2] at hC2 hg2
      rw [hg2]
      exact this hC2 hr2
  · intro e he ih γ1 hC1 g1 g2
    refine vc_X8_under_23 hs hs i1 (by omega) (S_edges i1 (fun _ => ?_))
    rw [g1]
    refine ⟨fun _ => S_kindOf e i1 rfl (by rw [g1]; exact he) (fun hk => ?_), fun q => absurd (by omega) q⟩
    rw [g1] at hk ⊢
    refine S_turnedOver (by omega) (S_change e (gi rfl) rfl (by rw [g2]; exact he) (tov_rng hk.1 hk.2) ?_)
    refine ih (up γ1 2 ((γ1 2).1, (γ1 2).2.1, up (γ1 2).2.2 e _)) (hC1.nx (Or.inl rfl)) (by rw [up_ne (by omega)]; exact g1) ?_
    rw [up_self, g2]
    congr 2
    funext e'
    unfold up
    by_cases hee : e' = e
    · rw [if_pos hee, if_pos (by omega), hee]
    · rw [if_neg hee]
      dsimp only
      by_cases h3 : e' < e
      · rw [if_pos h3, if_pos (by omega)]
      · rw [if_neg h3, if_neg (by omega)]
end C8
