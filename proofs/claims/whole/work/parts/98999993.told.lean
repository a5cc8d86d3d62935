/-! ===== told: the class ===== -/
noncomputable def aTd (a : AST) : AST := (a.1, a.2.1, [], (RUN a.2.2.1 ps0).1, a.2.2.2.2)
noncomputable def v_told (a : AST) (s : Int) : Int := ift (0 ≤ s ∧ s < 3) (if (RUN a.2.2.1 ps0).1.1 = 0 then (nS (RUN a.2.2.1 ps0).2 : Int) else -4) (-2)
noncomputable def n_told (a : AST) (s : Int) : AST := ifA (0 ≤ s ∧ s < 3) (if (RUN a.2.2.1 ps0).1.1 = 0 then aput (aTd a) s.toNat (RUN a.2.2.1 ps0).2 else aTd a) a
theorem TPc.l {m : MM} {tp : List Int} {f : Int × Int} (h : TPc m tp f) : TPl m tp := by
  refine ⟨h.1, h.2.1, fun i hi => ?_⟩
  have := h.2.2.1 i hi
  rw [show tp.getD i 0 = tp[i] by rw [List.getD_eq_getElem?_getD, List.getElem?_eq_getElem hi]; rfl]
  exact this
theorem C_told {E : am_E} {k : Nat} {m : MM} {γ : GM} {t : am_H} {a : AST} {Q : Int → MM → GM → am_H → Prop} {s : Int} (hE : EV E) (hC : CI m γ a) (hs : rJ s) (hQ : ∀ m1 γ1, CI m1 γ1 (n_told a s) → rsame m m1 → Q (v_told a s) m1 γ1 t) : TI E (k + 9) 131 [.ref 0, .int (iI s)] m γ t Q := by
  unfold v_told n_told at hQ
  refine vc_X8_told hs (S_CisSlot hs (fun c1 => b1 ?_) (fun c1 => b0 ?_))
  · rw [ift_t c1, ifA_t c1] at hQ
    refine S_readInto hE (gi rfl) hC.2.2.2.1.l (fun F G' f1 f2 f3 f4 => ?_)
    have hC1 : CI (up m 99 F) (up γ 2 G') (aTd a) := by
      refine CI.tape (hC.nx (Or.inl rfl)) (fun b b1 b2 => up_ne b1) ⟨by rw [up_self]; exact f1, by decide, fun i hi => absurd hi (Nat.not_lt_zero i), by rw [up_self]; exact f2, by rw [up_self]; exact f3⟩
    have hr1 : rsame m (up m 99 F) := fun b hb => up_ne (by omega)
    by_cases c : (RUN a.2.2.1 ps0).1.1 = 0
    · rw [if_pos c] at hQ ⊢
      rw [if_pos c] at hQ
      obtain ⟨e1, e2, e3, e4⟩ := f4 c
      refine b1 (S_become hC1 c1 (by rw [up_self]; exact e3) (fun m2 γ2 hC2 hr2 _ => ?_))
      rw [up_self, e1] at hC2
      have hg : isG (aput (aTd a) s.toNat (RUN a.2.2.1 ps0).2).1 s := by
        refine ⟨c1.1, c1.2, ?_⟩
        rw [aput_1, gset_s, ← e1]
        exact e4
      refine vc_X8_strandsOf hs (S_gridIn hC2 hs (fun q => absurd hg q) (fun _ => oSm ?_))
      obtain ⟨i1, -⟩ := hg.i hC2
      refine ⟨i1, S_followS hC2 hg (fun m3 hC3 hT3 hf3 => S_strandsN hT3 ?_)⟩
      have eg : (aput (aTd a) s.toNat (RUN a.2.2.1 ps0).2).1 s.toNat = (RUN a.2.2.1 ps0).2 := by rw [aput_1, gset_s]
      rw [eg] at hC3 ⊢
      exact hQ m3 _ hC3 (fun b hb => by rw [hf3 b (by omega) (by omega), hr2 b hb]; exact hr1 b hb)
    · rw [if_neg c] at hQ ⊢
      rw [if_neg c] at hQ
      exact b0 (hQ _ _ hC1 hr1)
  · have := hQ m γ
    rw [ift_f c1, ifA_f c1] at this
    exact this hC (fun _ _ => rfl)
