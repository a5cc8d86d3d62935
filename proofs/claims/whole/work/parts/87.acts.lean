/-! ===== acts: a slot becomes another thing ===== -/
noncomputable def ifA (p : Prop) (x y : AST) : AST := @ite _ p (Classical.propDecidable p) x y
theorem ifA_t {p : Prop} {x y : AST} (h : p) : ifA p x y = x := @if_pos _ (Classical.propDecidable p) h _ _ _
theorem ifA_f {p : Prop} {x y : AST} (h : ¬ p) : ifA p x y = y := @if_neg _ (Classical.propDecidable p) h _ _ _
noncomputable def aput (a : AST) (s : Nat) (G : GV) : AST := ifA (a.1 s = G) a (gset a.1 s G, ((s, a.1 s) :: a.2.1).take 10, a.2.2)
theorem CI.nx {m : MM} {γ : GM} {a : AST} {g : Nat} {G : GV} (h : CI m γ a) (hg : g = 2 ∨ g = 6) : CI m (up γ g G) a := by
  have e : up γ g G 11 = γ 11 := up_ne (by omega)
  refine h.move ⟨fun _ _ => rfl, fun b hb => up_ne (by omega)⟩ (by rw [e]; exact h.2.1) (h.2.2.1.move ⟨fun _ _ _ => rfl, up_ne (by omega)⟩)
theorem aput_1 {a : AST} {s : Nat} {G : GV} : (aput a s G).1 = gset a.1 s G := by
  unfold aput
  by_cases h : a.1 s = G
  · rw [ifA_t h]
    funext i
    unfold gset
    split
    · next e => rw [e, h]
    · rfl
  · rw [ifA_f h]
theorem gset_s {g : Nat → GV} {s : Nat} {G : GV} : gset g s G s = G := if_pos rfl
section C6
variable {E : am_E} {k : Nat} {m : MM} {γ : GM} {t : am_H} {a : AST}
theorem S_keep {Q : MM → GM → am_H → Prop} {s : Int} {g : Nat} (hC : CI m γ a) (hs : 0 ≤ s ∧ s < 3) (hg : isg g) (hg6 : 146 ≤ g) (hv : vG (γ g)) (hn : nG (γ g)) (hQ : ∀ m1 γ1, (∀ b, b ≠ 103 → b ≠ 104 → m1 b = m b) → (∀ b, ¬ (106 ≤ b ∧ b ≤ 142) → γ1 b = γ b) → ACc m1 γ1 (((s.toNat, γ g) :: a.2.1).take 10) → Q m1 γ1 t) : TV E (k + 4) 2 [.ref 103, .int (iI s), .ref g] m γ t Q := by
  obtain ⟨d1, d2, top, d3, d4, d5⟩ := hC.2.2.2.2.2
  refine vc_X0_keep (by omega) hg ?_
  unfold W_X0_keep
  rw [d3]
  refine ⟨fun c => absurd c (by omega), fun c => ⟨fun c2 => ⟨by omega, by omega, ?_⟩, fun c2 => absurd (by omega) c2⟩⟩
  rw [Int.toNat_natCast]
  refine S_copy (isg_106 d4) hg (by omega) ?_
  have e3 : (up m 104 (up (m 104) top s)) 103 3 = (top : Int) := d3
  have e2 : (up m 104 (up (m 104) top s)) 103 2 = (a.2.1.length : Int) := d1
  rw [e3, e2]
  have fin : ∀ top' : Nat, top' = (top + 1) % 10 → TI E (k + 3) 312 [.int (iI 10), .int (iI ((a.2.1.length : Int) + 1))] (up (up m 104 (up (m 104) top s)) 103 (up ((up m 104 (up (m 104) top s)) 103) 3 (top' : Int))) (up γ (106 + 4 * top) (γ g)) t (fun v14 m14 γ14 t14 => (Q (up m14 103 (up (m14 103) 2 v14)) γ14 t14)) := by
    intro top' ht
    refine S_min (by decide) (by omega) ?_
    refine hQ _ _ (fun b b1 b2 => ?_) (fun b hb => ?_) ?_
    · rw [up_ne b1, up_ne b1, up_ne b2]
    · rw [up_ne (by omega)]
    · have hlen : (((s.toNat, γ g) :: a.2.1).take 10).length = min 10 (a.2.1.length + 1) := by rw [List.length_take, List.length_cons]
      refine ⟨?_, by rw [hlen]; omega, top', rfl, by omega, fun i hi => ?_⟩
      · rw [up_self, up_self, hlen]
        split <;> omega
      · rw [hlen] at hi
        rw [List.getElem_take]
        show (up (m 104) top s) ((top' + 9 - i) % 10) = _ ∧ up γ (106 + 4 * top) (γ g) (106 + 4 * ((top' + 9 - i) % 10)) = _ ∧ _
        cases i with
        | zero =>
          have e : (top' + 9 - 0) % 10 = top := by omega
          rw [e, up_self, up_self]
          exact ⟨by show s = (s.toNat : Int); omega, rfl, by show s.toNat < 3; omega, hv, hn⟩
        | succ i =>
          have e : (top' + 9 - (i + 1)) % 10 = (top + 9 - i) % 10 := by omega
          have hne : (top + 9 - i) % 10 ≠ top := by omega
          rw [e, up_ne hne, up_ne (by omega)]
          exact d5 i (by omega)
  refine ⟨by omega, fun c3 => ?_, fun c3 => ?_⟩
  · have := fin (top + 1) (by omega)
    exact this
  · have := fin 0 (by omega)
    exact this
theorem S_become {Q : MM → GM → am_H → Prop} {s : Int} (hC : CI m γ a) (hs : 0 ≤ s ∧ s < 3) (hn : nG (γ 2)) (hQ : ∀ m1 γ1, CI m1 γ1 (aput a s.toNat (γ 2)) → rsame m m1 → γ1 (146 + 4 * s.toNat) = γ 2 → Q m1 γ1 t) : TV E (k + 5) 191 [.ref 0, .int (iI s)] m γ t Q := fun h S => by
  have hv2 : vG (γ 2) := (S.gg 2 (gi rfl)).vg
  revert h
  show TV E (k + 5) 191 [.ref 0, .int (iI s)] m γ t Q
  obtain ⟨e1, e2, e3⟩ := hC.sl hs.1 hs.2
  have i1 : isg (146 + 4 * s.toNat) := isg_146 (by omega)
  refine vc_X8_become (by omega) (S_CisSlot (by omega) (fun c => b1 ⟨hs, S_isLike i1 (gi rfl) (by rw [e1]; exact e3) hn (fun c2 => b1 ?_) (fun c2 => b0 ⟨hs, ?_⟩)⟩) (fun c => absurd hs c))
  · have e : aput a s.toNat (γ 2) = a := ifA_t (e1.symm.trans c2)
    exact hQ m γ (by rw [e]; exact hC) (fun _ _ => rfl) c2
  · refine S_keep hC hs i1 (by omega) (by rw [e1]; exact e2) (by rw [e1]; exact e3) (fun m1 γ1 hm hγ hA => ⟨hs, ?_⟩)
    refine S_copy i1 (gi rfl) (by omega) ?_
    have g2 : γ1 2 = γ 2 := hγ 2 (by omega)
    rw [g2]
    have hne : a.1 s.toNat ≠ γ 2 := fun q => c2 (e1.trans q)
    have ea : aput a s.toNat (γ 2) = (gset a.1 s.toNat (γ 2), ((s.toNat, a.1 s.toNat) :: a.2.1).take 10, a.2.2) := ifA_f hne
    refine hQ m1 _ ?_ (fun b hb => hm b (by omega) (by omega)) up_self
    rw [ea]
    obtain ⟨q1, q2, q3, q4, q5, q6⟩ := hC
    have g11 : up γ1 (146 + 4 * s.toNat) (γ 2) 11 = γ 11 := by rw [up_ne (by omega)]; exact hγ 11 (by omega)
    refine ⟨fun i hi => ?_, ?_, ?_, ?_, ?_, ?_⟩
    · show up γ1 (146 + 4 * s.toNat) (γ 2) (146 + 4 * i) = gset a.1 s.toNat (γ 2) i ∧ _
      by_cases hi2 : i = s.toNat
      · subst hi2
        rw [up_self]
        show γ 2 = gset a.1 s.toNat (γ 2) s.toNat ∧ vG (gset a.1 s.toNat (γ 2) s.toNat) ∧ nG (gset a.1 s.toNat (γ 2) s.toNat)
        rw [gset_s]
        exact ⟨rfl, hv2, hn⟩
      · rw [up_ne (by omega), hγ _ (by omega)]
        have : gset a.1 s.toNat (γ 2) i = a.1 i := if_neg hi2
        show _ ∧ vG (gset a.1 s.toNat (γ 2) i) ∧ nG (gset a.1 s.toNat (γ 2) i)
        rw [this]
        exact q1 i hi
    · rw [g11]
      refine ⟨q2.1, ?_⟩
      have hT := q2.2
      unfold TrOK at hT ⊢
      rw [hm 10 (by decide) (by decide), hm 15 (by decide) (by decide), hm 16 (by decide) (by decide), hm 17 (by decide) (by decide), hm 18 (by decide) (by decide), hm 19 (by decide) (by decide), hm 20 (by decide) (by decide), hm 21 (by decide) (by decide), hm 22 (by decide) (by decide), hm 23 (by decide) (by decide), hm 24 (by decide) (by decide), hm 25 (by decide) (by decide), hm 26 (by decide) (by decide)]
      exact hT
    · exact q3.move ⟨fun b h1 h2 => hm b (by omega) (by omega), by rw [up_ne (by omega)]; exact hγ 29 (by omega)⟩
    · unfold TPc
      rw [hm 99 (by decide) (by decide), hm 100 (by decide) (by decide)]
      exact q4
    · unfold OUc
      rw [hm 101 (by decide) (by decide), hm 102 (by decide) (by decide)]
      exact q5
    · obtain ⟨d1, d2, top, d3, d4, d5⟩ := hA
      rw [e1] at d1 d2 d5
      exact ⟨d1, d2, top, d3, d4, fun i hi => by rw [up_ne (by omega)]; exact d5 i hi⟩
end C6
section C7
variable {E : am_E} {k : Nat} {m : MM} {γ : GM} {t : am_H} {a : AST} {Q : Int → MM → GM → am_H → Prop}
noncomputable def v_drops (a : AST) (s : Int) : Int := ift (0 ≤ s ∧ s < 3) (ift (isG a.1 s) 1 0) (-2)
noncomputable def n_drops (a : AST) (s : Int) : AST := ifA (isG a.1 s) (aput a s.toNat g00) a
theorem C_drops {s : Int} (hC : CI m γ a) (hs : rJ s) (hQ : ∀ m1 γ1, CI m1 γ1 (n_drops a s) → rsame m m1 → Q (v_drops a s) m1 γ1 t) : TI E (k + 6) 172 [.ref 0, .int (iI s)] m γ t Q := by
  unfold v_drops n_drops at hQ
  refine vc_X8_drops hs (S_CisSlot hs (fun c => b1 (S_gridIn hC hs (fun c1 => oN ?_) (fun c1 => oSm ⟨(c1.i hC).1, S_clear (gi rfl) (S_become (hC.nx (Or.inl rfl)) c ?_ (fun m1 γ1 hC1 hr _ => ?_))⟩))) (fun c => b0 ?_))
  · have := hQ m γ
    rw [ift_t c, ift_f c1, ifA_f c1] at this
    exact this hC (fun _ _ => rfl)
  · rw [up_self]
    exact fun _ _ => rfl
  · have := hQ m1 γ1
    rw [ift_t c, ift_t c1, ifA_t c1] at this
    rw [up_self] at hC1
    exact this hC1 hr
  · have := hQ m γ
    have h0 : ¬ isG a.1 s := fun h => c ⟨h.1, h.2.1⟩
    rw [ift_f c, ifA_f h0] at this
    exact this hC (fun _ _ => rfl)
noncomputable def v_sets (a : AST) (s e w : Int) : Int := ift (isE a s e ∧ 0 ≤ w ∧ w ≤ 3) ((a.1 s.toNat).2.2 e.toNat) (-2)
noncomputable def n_sets (a : AST) (s e w : Int) : AST := ifA (isE a s e ∧ 0 ≤ w ∧ w ≤ 3) (aput a s.toNat ((a.1 s.toNat).1, (a.1 s.toNat).2.1, up (a.1 s.toNat).2.2 e.toNat w)) a
theorem nG_up {G : GV} (h : nG G) {e : Nat} {d : Int} (he : e < gn G.1 G.2.1) : nG (G.1, G.2.1, up G.2.2 e d) := by
  intro e' he'
  show up G.2.2 e d e' = 0
  have he' : gn G.1 G.2.1 ≤ e' := he'
  rw [up_ne (by omega)]
  exact h e' he'
theorem C_sets {s e w : Int} (hC : CI m γ a) (hs : rJ s) (he : rJ e) (hw : rJ w) (hQ : ∀ m1 γ1, CI m1 γ1 (n_sets a s e w) → rsame m m1 → Q (v_sets a s e w) m1 γ1 t) : TI E (k + 6) 163 [.ref 0, .int (iI s), .int (iI e), .int (iI w)] m γ t Q := by
  unfold v_sets n_sets at hQ
  have h0 : ¬ (isE a s e ∧ 0 ≤ w ∧ w ≤ 3) → Q (-2) m γ t := fun h => by
    have := hQ m γ
    rw [ift_f h, ifA_f h] at this
    exact this hC (fun _ _ => rfl)
  refine vc_X8_sets hs he hw (S_gridIn hC hs (fun c1 => oN (h0 (fun h => c1 h.1.1))) (fun c1 => oSm ?_))
  obtain ⟨i1, i2, i3, i4, -⟩ := c1.i hC
  refine ⟨i1, S_hasEdge i1 he (fun c2 => b1 (S_isKind hw (fun c3 => b1 ?_) (fun c3 => b0 (h0 (fun h => c3 h.2))))) (fun c2 => b0 (h0 (fun h => c2 (by rw [i2]; exact h.1.2))))⟩
  rw [i2] at c2
  have hok : isE a s e ∧ 0 ≤ w ∧ w ≤ 3 := ⟨⟨c1, c2⟩, c3⟩
  refine S_kindOf e.toNat i1 (by omega) (by rw [i2]; omega) (fun _ => S_copy (gi rfl) i1 (by omega) (S_change e.toNat (gi rfl) (by omega) (by rw [up_self, i2]; omega) c3 ?_))
  rw [up_self, i2]
  refine S_become ((hC.nx (Or.inl rfl)).nx (Or.inl rfl)) ⟨c1.1, c1.2.1⟩ ?_ (fun m1 γ1 hC1 hr _ => ?_)
  · rw [up_self]
    exact nG_up i4 (by omega)
  · have := hQ m1 γ1
    rw [ift_t hok, ifA_t hok] at this
    rw [up_self] at hC1
    exact this hC1 hr
noncomputable def v_quarter (a : AST) (s : Int) : Int := ift (isG a.1 s) ((a.1 s.toNat).2.1) (-2)
noncomputable def n_quarter (a : AST) (s : Int) : AST := ifA (isG a.1 s) (aput a s.toNat (gT (a.1 s.toNat))) a
theorem C_quarter {s : Int} (hC : CI m γ a) (hs : rJ s) (hQ : ∀ m1 γ1, CI m1 γ1 (n_quarter a s) → rsame m m1 → Q (v_quarter a s) m1 γ1 t) : TI E (k + 6) 166 [.ref 0, .int (iI s)] m γ t Q := by
  unfold v_quarter n_quarter at hQ
  refine vc_X8_quarter hs (S_gridIn hC hs (fun c1 => oN ?_) (fun c1 => oSm ⟨(c1.i hC).1, S_turnG (gi rfl) (c1.i hC).1 (by omega) (S_become (hC.nx (Or.inl rfl)) ⟨c1.1, c1.2.1⟩ ?_ (fun m1 γ1 hC1 hr hg => S_rows (c1.i hC).1 (fun _ => ?_)))⟩))
  · have := hQ m γ
    rw [ift_f c1, ifA_f c1] at this
    exact this hC (fun _ _ => rfl)
  · rw [up_self]
    exact nrm_nG _
  · have i2 := (c1.i hC).2.1
    have := hQ m1 γ1
    rw [ift_t c1, ifA_t c1] at this
    rw [up_self, i2] at hC1 hg
    rw [hg]
    exact this hC1 hr
noncomputable def v_mirror (a : AST) (s : Int) : Int := ift (isG a.1 s) (nS (gM (a.1 s.toNat))) (-2)
noncomputable def n_mirror (a : AST) (s : Int) : AST := ifA (isG a.1 s) (aput a s.toNat (gM (a.1 s.toNat))) a
theorem C_mirror {s : Int} (hC : CI m γ a) (hs : rJ s) (hQ : ∀ m1 γ1, CI m1 γ1 (n_mirror a s) → rsame m m1 → Q (v_mirror a s) m1 γ1 t) : TI E (k + 6) 167 [.ref 0, .int (iI s)] m γ t Q := by
  unfold v_mirror n_mirror at hQ
  refine vc_X8_mirror hs (S_gridIn hC hs (fun c1 => oN ?_) (fun c1 => oSm ⟨(c1.i hC).1, S_mirrG (gi rfl) (c1.i hC).1 (by omega) (S_become (hC.nx (Or.inl rfl)) ⟨c1.1, c1.2.1⟩ ?_ (fun m1 γ1 hC1 hr hg => ?_))⟩))
  · have := hQ m γ
    rw [ift_f c1, ifA_f c1] at this
    exact this hC (fun _ _ => rfl)
  · rw [up_self]
    exact nrm_nG _
  · have i2 := (c1.i hC).2.1
    rw [up_self, i2] at hC1
    have hslot : (aput a s.toNat (gM (a.1 s.toNat))).1 s.toNat = gM (a.1 s.toNat) := by rw [aput_1, gset_s]
    refine S_strandsOf hC1 ⟨c1.1, c1.2.1, by rw [hslot]; exact c1.2.2⟩ (fun m2 γ2 hC2 hr2 => ?_)
    rw [hslot]
    have := hQ m2 γ2
    rw [ift_t c1, ifA_t c1] at this
    exact this hC2 (fun b hb => (hr2 b hb).trans (hr b hb))
end C7
