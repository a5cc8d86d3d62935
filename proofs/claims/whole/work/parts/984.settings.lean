/-! ===== settings: the reference ===== -/
section SET
variable {E : am_E} {k : Nat} {m : MM} {γ : GM} {t : am_H} {a : AST} {Q : Int → MM → GM → am_H → Prop}
def wys (G : GV) (n : Int) (i : Nat) : Int := sumN (fun set => if (lps G set : Int) = n then 1 else 0) i
theorem wys_rg (G : GV) (n : Int) (i : Nat) : 0 ≤ wys G n i ∧ wys G n i ≤ i := by
  have := sumN_rg (f := fun set => if (lps G set : Int) = n then (1 : Int) else 0) (lo := 0) (hi := 1) (fun e => by split <;> omega) i
  unfold wys
  omega
noncomputable def v_settings (a : AST) (s n : Int) : Int := ift (isG a.1 s ∧ 0 ≤ n) (ift (nX (a.1 s.toNat) ≤ 12) (wys (a.1 s.toNat) n (2 ^ (nX (a.1 s.toNat)).toNat)) (-5)) (-2)
theorem R_settings {s n : Int} (hR : RI m a) (hs : rJ s) (hn : rJ n) (hQ : ∀ m1, fr SL SF m m1 → Q (v_settings a s n) m1 γ t) : TI E (k + 6) 268 [.ref 158, .int (iI s), .int (iI n)] m γ t Q := by
  unfold v_settings at hQ
  refine vc_X9_settings hs hn (S_isLaid hR hs (fun c => b0 ?_) (fun m1 c hf hG hS hP => b1 ⟨fun c2 => ?_, fun c2 => ?_⟩))
  · have := hQ m fr.refl
    rw [ift_f (fun h => c h.1)] at this
    exact this
  · have := hQ m1 hf
    rw [ift_f (fun h => by have := h.2; omega)] at this
    exact this
  have hle := hG.le
  have h24 := cnt2_le (a.1 s.toNat).2.2 (gn (a.1 s.toNat).1 (a.1 s.toNat).2.1)
  refine S_crosses hG.1.2.2.1 (by omega) ?_
  rw [cnt_how hG 0, cnt_how hG 1]
  have eX : cnt (a.1 s.toNat).2.2 0 (gn (a.1 s.toNat).1 (a.1 s.toNat).2.1) + cnt (a.1 s.toNat).2.2 1 (gn (a.1 s.toNat).1 (a.1 s.toNat).2.1) = ((nX (a.1 s.toNat)).toNat : Int) := by
    show nX (a.1 s.toNat) = _
    have : 0 ≤ nX (a.1 s.toNat) := h24.1
    omega
  have h25 : (nX (a.1 s.toNat)).toNat < 25 := by omega
  have eX2 : nX (a.1 s.toNat) = ((nX (a.1 s.toNat)).toNat : Int) := eX
  rw [eX]
  have hok : isG a.1 s ∧ 0 ≤ n := ⟨c, by omega⟩
  refine ⟨fun c3 => S_saves hG (fun m2 hf2 h183 => ?_), fun c3 => ?_⟩
  · have hG2 := hG.fr hf2 (by decide) (by decide) (by decide) (by decide) (by decide) (by decide) (by decide)
    have hp : (2 : Nat) ^ (nX (a.1 s.toNat)).toNat ≤ 2 ^ 12 := Nat.pow_le_pow_right (by decide) (by omega)
    have hff2 : fr SL SF m m2 := hf.trans (hf2.mono (by decide) (by decide))
    have ep : (2 : Int) ^ (nX (a.1 s.toNat)).toNat = ((2 ^ (nX (a.1 s.toNat)).toNat : Nat) : Int) := by push_cast; rfl
    have hsh : bShl 1 ((nX (a.1 s.toNat)).toNat : Int) = ((2 ^ (nX (a.1 s.toNat)).toNat : Nat) : Int) := by rw [(shs_D _ h25).2.2.2, ep]
    refine upN (n := 2 ^ (nX (a.1 s.toNat)).toNat) (P := fun i => ∀ m3, fr [162, 166, 167, 168, 169, 170] [16, 17, 18, 19, 41] m2 m3 → hd_X9_settings_39 E (k + 5) s n n ((nX (a.1 s.toNat)).toNat : Int) (wys (a.1 s.toNat) n i) (i : Int) m3 γ t Q) ?_ ?_ 0 (Nat.zero_le _) m2 fr.refl
    · intro m3 hf3
      have hw := wys_rg (a.1 s.toNat) n (2 ^ (nX (a.1 s.toNat)).toNat)
      refine vc_X9_settings_39 hs hn hn (by omega) (by omega) (by omega) ?_
      unfold W_X9_settings_39
      rw [hsh]
      refine ⟨fun q => absurd q (by omega), fun _ => ?_⟩
      have := hQ m3 (hff2.trans (hf3.mono (by decide) (by decide)))
      rw [ift_t hok, ift_t (by omega)] at this
      exact this
    · intro i hi ih m3 hf3
      have hw := wys_rg (a.1 s.toNat) n i
      refine vc_X9_settings_39 hs hn hn (by omega) (by omega) (by omega) ?_
      unfold W_X9_settings_39
      rw [hsh]
      refine ⟨fun _ => ?_, fun q => absurd (show (i : Int) < ((2 ^ (nX (a.1 s.toNat)).toNat : Nat) : Int) by omega) q⟩
      have hS3 := hG2.1.fr hf3 (by decide) (by decide) (by decide) (by decide) (by decide) (by decide)
      refine S_loopsBy i hS3 hG2.2.2.1 hG2.2.2.2 (fun e he => by rw [hf3.1 183 (by decide) (by decide)]; exact h183 e he) rfl (by omega) (fun m4 hf4 hG4 hS4 h41 => ?_)
      have h5 := ih m4 (hf3.trans hf4)
      have hst : wys (a.1 s.toNat) n (i + 1) = wys (a.1 s.toNat) n i + (if (lps (a.1 s.toNat) i : Int) = n then 1 else 0) := rfl
      rw [hst] at h5
      refine ⟨fun c4 => ?_, fun c4 => ?_⟩
      · rw [if_pos c4] at h5
        exact h5
      · rw [if_neg c4] at h5
        exact h5
  · have := hQ m1 hf
    rw [ift_t hok, ift_f (by omega)] at this
    exact this
end SET
