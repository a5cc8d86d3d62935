/-! ===== smooth: the reference ===== -/
section SMO
variable {E : am_E} {k : Nat} {m : MM} {γ : GM} {t : am_H} {a : AST} {Q : Int → MM → GM → am_H → Prop}
def smV (G : GV) (d : Int) : Int := if sga G % 2 = 0 then trm G (d + 3 * sga G) else -trm G (d + 3 * sga G)
noncomputable def v_smooth (a : AST) (s d : Int) : Int := ift (isB a s d) (smV (a.1 s.toNat) d) (-1000000000)
theorem tmod2 (z : Int) : (Int.tmod z 2 = 0 ↔ z % 2 = 0) ∧ -1 ≤ Int.tmod z 2 ∧ Int.tmod z 2 ≤ 1 := by
  rcases Int.le_total 0 z with h0 | h0
  · rw [Int.tmod_eq_emod_of_nonneg h0]
    omega
  · have h1 := Int.neg_tmod (-z) 2
    rw [Int.neg_neg] at h1
    rw [h1, Int.tmod_eq_emod_of_nonneg (by omega)]
    omega
theorem brk_rg {G : GV} (hG : vG G) (h12 : nX G ≤ 12) (h0 : 0 < G.1) {d : Int} : -1000000000000 ≤ brk G (2 ^ (nX G).toNat) d ∧ brk G (2 ^ (nX G).toNat) d ≤ 1000000000000 := by
  by_cases h : d < -60 ∨ 60 < d
  · rw [brk_far hG h12 h]
    decide
  · have h1 := brk_R hG h0 h12 (j := (d + 120).toNat) (by omega) (2 ^ (nX G).toNat)
    rw [show (((d + 120).toNat : Nat) : Int) - 120 = d by omega] at h1
    have hp : (2 : Nat) ^ (nX G).toNat ≤ 2 ^ 12 := Nat.pow_le_pow_right (by decide) (by omega)
    have h2 := bkR_rg hG (i := 2 ^ (nX G).toNat) (j := (d + 120).toNat) hp 64
    rw [← h1]
    omega
theorem R_smooth {s d : Int} (hR : RI m a) (hs : rJ s) (hd : rJ d) (hQ : ∀ m1, fr SL SF m m1 → Q (v_smooth a s d) m1 γ t) : TL E (k + 6) 274 [.ref 158, .int (iI s), .int (iI d)] m γ t Q := by
  unfold v_smooth at hQ
  refine vc_X9_smooth hs hd (S_isBracket hR hs hd (fun m1 c hf => b0 ?_) (fun m1 c hf hG hS hP => b1 ?_))
  · have := hQ m1 hf
    rw [ift_f c] at this
    exact this
  have hc := c.2.1
  have hle := hG.le
  have hv := hG.2.2.1
  refine upN (n := gn (a.1 s.toNat).1 (a.1 s.toNat).2.1) (P := fun e => hd_X9_smooth_18 E (k + 5) s d d (sumN (sg (a.1 s.toNat)) e) (e : Int) m1 γ t Q) ?_ ?_ 0 (Nat.zero_le _)
  · have hr := sumN_rg (fun e => sg_rg (a.1 s.toNat) e) (gn (a.1 s.toNat).1 (a.1 s.toNat).2.1)
    refine vc_X9_smooth_18 hs hd hd (by omega) (by omega) ?_
    unfold W_X9_smooth_18
    rw [hG.1.2.2.1]
    refine ⟨fun q => absurd q (by omega), fun _ => S_laysBracket hG c.2.2 (fun m2 hf2 hG2 h2 => ?_)⟩
    have this := hQ m2 (hf.trans (hf2.mono (by decide) (by decide)))
    have eS : sga (a.1 s.toNat) = sumN (sg (a.1 s.toNat)) (gn (a.1 s.toNat).1 (a.1 s.toNat).2.1) := rfl
    rw [ift_t c] at this
    unfold smV at this
    rw [trm_brk hv hG.2.2.2 c.2.2, eS] at this
    have t2 := tmod2 (sumN (sg (a.1 s.toNat)) (gn (a.1 s.toNat).1 (a.1 s.toNat).2.1))
    have br := brk_rg hv c.2.2 hG.2.2.2 (d := d + 3 * sumN (sg (a.1 s.toNat)) (gn (a.1 s.toNat).1 (a.1 s.toNat).2.1))
    generalize sumN (sg (a.1 s.toNat)) (gn (a.1 s.toNat).1 (a.1 s.toNat).2.1) = w at *
    refine ⟨by omega, S_in (by omega) (by omega) (by omega) (fun c2 => b1 ?_) (fun c2 => b0 ?_)⟩
    · rw [h2 _ (by omega), brk_R hv hG.2.2.2 c.2.2 (by omega), show (((120 + d + 3 * w).toNat : Nat) : Int) - 120 = d + 3 * w by omega]
      refine ⟨by omega, by omega, fun c3 => ?_, fun c3 => ⟨by omega, ?_⟩⟩
      · rw [if_pos (t2.1.mp c3)] at this
        exact this
      · rw [if_neg (fun z => c3 (t2.1.mpr z))] at this
        exact this
    · rw [brk_far hv c.2.2 (by omega)] at this
      refine ⟨by omega, fun c3 => ?_, fun c3 => ?_⟩
      · rw [if_pos (t2.1.mp c3)] at this
        exact this
      · rw [if_neg (fun z => c3 (t2.1.mpr z))] at this
        exact this
  · intro e he ih
    have hr := sumN_rg (fun e => sg_rg (a.1 s.toNat) e) e
    have hk := hv.2 e he
    refine vc_X9_smooth_18 hs hd hd (by omega) (by omega) ?_
    unfold W_X9_smooth_18
    rw [hG.1.2.2.1]
    have ih : hd_X9_smooth_18 E (k + 5) s d d (sumN (sg (a.1 s.toNat)) e + sg (a.1 s.toNat) e) ((e : Int) + 1) m1 γ t Q := ih
    refine ⟨fun _ => ⟨by omega, ?_⟩, fun q => absurd (by omega) q⟩
    rw [Int.toNat_natCast, hG.2.1 e he]
    refine S_isCross (by omega) (fun c3 => b1 (S_RsignOf e hG hP rfl he c3 ih)) (fun c3 => b0 ?_)
    have hz : sg (a.1 s.toNat) e = 0 := by unfold sg; rw [if_neg c3]
    rw [hz] at ih
    exact ih
end SMO
