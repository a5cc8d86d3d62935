/-! ===== the reference: crosses of strands, signs, in turn ===== -/
theorem sumN_congr {f g : Nat → Int} {n : Nat} (h : ∀ e, e < n → f e = g e) : sumN f n = sumN g n := by
  induction n with
  | zero => rfl
  | succ n ih => simp only [sumN]; rw [ih (fun e he => h e (by omega)), h n (by omega)]
theorem sumN_add (f g : Nat → Int) : ∀ n, sumN (fun e => f e + g e) n = sumN f n + sumN g n
  | 0 => rfl
  | n + 1 => by simp only [sumN]; rw [sumN_add f g n]; omega
def xof (G : GV) (a b : Int) (n : Nat) : Int := sumN (fun e => if oS G e = a ∧ uS G e = b ∨ oS G e = b ∧ uS G e = a then 1 else 0) n
def sof (G : GV) (a b : Int) (n : Nat) : Int := sumN (fun e => if oS G e = a ∧ uS G e = b ∨ oS G e = b ∧ uS G e = a then sg G e else 0) n
theorem xof_rg (G : GV) (a b : Int) (n : Nat) : 0 ≤ xof G a b n ∧ xof G a b n ≤ n := by
  have := sumN_rg (f := fun e => if oS G e = a ∧ uS G e = b ∨ oS G e = b ∧ uS G e = a then 1 else 0) (lo := 0) (hi := 1) (fun e => by split <;> omega) n
  unfold xof
  omega
theorem sof_rg (G : GV) (a b : Int) (n : Nat) : -n ≤ sof G a b n ∧ sof G a b n ≤ n := by
  have := sumN_rg (f := fun e => if oS G e = a ∧ uS G e = b ∨ oS G e = b ∧ uS G e = a then sg G e else 0) (lo := -1) (hi := 1) (fun e => by have := sg_rg G e; split <;> omega) n
  unfold sof
  omega
theorem xof_ne {G : GV} {a b : Int} (h : a ≠ b) : xof G a b (gn G.1 G.2.1) = xov G a b + xov G b a := by
  unfold xof xov
  rw [← sumN_add]
  refine sumN_congr (fun e _ => ?_)
  by_cases c1 : oS G e = a ∧ uS G e = b
  · rw [if_pos (Or.inl c1), if_pos c1, if_neg (fun q => h (c1.1.symm.trans q.1))]
    rfl
  · rw [if_neg c1]
    by_cases c2 : oS G e = b ∧ uS G e = a
    · rw [if_pos (Or.inr c2), if_pos c2]
      rfl
    · rw [if_neg (fun q => q.elim c1 c2), if_neg c2]
      rfl
theorem xof_eq {G : GV} {a : Int} : xof G a a (gn G.1 G.2.1) = xov G a a := by
  unfold xof xov
  refine sumN_congr (fun e _ => ?_)
  by_cases c1 : oS G e = a ∧ uS G e = a
  · rw [if_pos (Or.inl c1), if_pos c1]
  · rw [if_neg (fun q => q.elim c1 c1), if_neg c1]
theorem sof_ne {G : GV} {a b : Int} (h : a ≠ b) : sof G a b (gn G.1 G.2.1) = sov G a b + sov G b a := by
  unfold sof sov
  rw [← sumN_add]
  refine sumN_congr (fun e _ => ?_)
  by_cases c1 : oS G e = a ∧ uS G e = b
  · rw [if_pos (Or.inl c1), if_pos c1, if_neg (fun q => h (c1.1.symm.trans q.1))]
    omega
  · rw [if_neg c1]
    by_cases c2 : oS G e = b ∧ uS G e = a
    · rw [if_pos (Or.inr c2), if_pos c2]
      omega
    · rw [if_neg (fun q => q.elim c1 c2), if_neg c2]
      rfl
theorem sof_eq {G : GV} {a : Int} : sof G a a (gn G.1 G.2.1) = sov G a a := by
  unfold sof sov
  refine sumN_congr (fun e _ => ?_)
  by_cases c1 : oS G e = a ∧ uS G e = a
  · rw [if_pos (Or.inl c1), if_pos c1]
  · rw [if_neg (fun q => q.elim c1 c1), if_neg c1]
section R7
variable {E : am_E} {k : Nat} {m : MM} {γ : GM} {t : am_H} {a : AST} {Q : Int → MM → GM → am_H → Prop}
theorem S_RsignOf {G : GV} {z : Int} (e : Nat) (hG : RG m G) (hP : RP m G) (hz : z = (e : Int)) (he : e < gn G.1 G.2.1) (hx : crX G e) (hQ : Q (sg G e) m γ t) : TI E k 214 [.ref 158, .int (iI z)] m γ t Q := by
  have hle := hG.le
  subst hz
  unfold sg at hQ
  rw [if_pos (show G.2.2 e = 0 ∨ G.2.2 e = 1 from hx)] at hQ
  obtain ⟨-, -, -, -, p5, p6, p7, p8⟩ := hP.1 e he hx
  obtain ⟨y, hy, -, -, h1, h2, h3, h4⟩ := xo hG.2.2.1 he hx
  obtain ⟨y', hy', -, -, h1', h2', h3', h4'⟩ := xu hG.2.2.1 he hx
  have r1 := dXY_rg y.2.2.1 y.2.2.2
  have r2 := dXY_rg y'.2.2.1 y'.2.2.2
  rw [← h3, ← h4] at r1
  rw [← h3', ← h4'] at r2
  have mulb : ∀ a b : Int, -2 ≤ a → a ≤ 2 → -2 ≤ b → b ≤ 2 → -4 ≤ a * b ∧ a * b ≤ 4 := by
    intro a b a1 a2 b1 b2
    have ha : a = -2 ∨ a = -1 ∨ a = 0 ∨ a = 1 ∨ a = 2 := by omega
    rcases ha with rfl | rfl | rfl | rfl | rfl <;> omega
  have m1 := mulb (oY G e) (uX G e) (by omega) (by omega) (by omega) (by omega)
  have m2 := mulb (oX G e) (uY G e) (by omega) (by omega) (by omega) (by omega)
  have e1 : uX G e * -oY G e = -(oY G e * uX G e) := by rw [Int.mul_neg, Int.mul_comm]
  have e2 : uY G e * oX G e = oX G e * uY G e := Int.mul_comm _ _
  refine vc_X9_signOf (by omega) ⟨by omega, by omega, by omega, by omega, ?_⟩
  rw [Int.toNat_natCast, p5, p6, p7, p8, e1, e2]
  refine ⟨by omega, fun c => ?_, fun c => ?_⟩
  · rw [if_neg (by omega)] at hQ
    exact hQ
  · rw [if_pos (by omega)] at hQ
    exact hQ
theorem R_meets {s x y : Int} (hR : RI m a) (hs : rJ s) (hx : rJ x) (hy : rJ y) (hQ : ∀ m1, fr SL SF m m1 → Q (v_meets a s x y) m1 γ t) : TI E (k + 7) 245 [.ref 158, .int (iI s), .int (iI x), .int (iI y)] m γ t Q := by
  unfold v_meets at hQ
  refine vc_X9_meets hs hx hy (S_areStrands hR hs hx hy (fun m1 c hf => b0 ?_) (fun m1 c1 c2 hf hG hS hP => b1 ?_))
  · have := hQ m1 hf
    rw [ift_f c] at this
    exact this
  · have hfin := hQ m1 hf
    have hle := hG.le
    rw [ift_t ⟨c1, c2⟩] at hfin
    refine upN (n := gn (a.1 s.toNat).1 (a.1 s.toNat).2.1) (P := fun e => hd_X9_meets_19 E (k + 6) s x y x y (xof (a.1 s.toNat) x y e) (e : Int) m1 γ t Q) ?_ ?_ 0 (Nat.zero_le _)
    · have := xof_rg (a.1 s.toNat) x y (gn (a.1 s.toNat).1 (a.1 s.toNat).2.1)
      refine vc_X9_meets_19 hs hx hy hx hy (by omega) (by omega) ?_
      unfold W_X9_meets_19
      rw [hG.1.2.2.1]
      refine ⟨fun c => absurd c (by omega), fun c => ?_⟩
      by_cases e : x = y
      · subst e
        rw [if_pos rfl, ← xof_eq] at hfin
        exact hfin
      · rw [if_neg e, ← xof_ne e] at hfin
        exact hfin
    · intro e he ih
      have := xof_rg (a.1 s.toNat) x y e
      refine vc_X9_meets_19 hs hx hy hx hy (by omega) (by omega) ?_
      unfold W_X9_meets_19
      rw [hG.1.2.2.1]
      have ih : hd_X9_meets_19 E (k + 6) s x y x y (xof (a.1 s.toNat) x y e + (if oS (a.1 s.toNat) e = x ∧ uS (a.1 s.toNat) e = y ∨ oS (a.1 s.toNat) e = y ∧ uS (a.1 s.toNat) e = x then 1 else 0)) ((e : Int) + 1) m1 γ t Q := ih
      refine ⟨fun c => S_isOf e hG hP rfl he hx hy c1.2.1 c2.2.1 (fun _ c3 => b1 ?_) (fun c3 => b0 ?_), fun c => absurd c (by omega)⟩
      · rw [if_pos c3] at ih
        exact ih
      · rw [if_neg c3] at ih
        exact ih
theorem R_over {s x y : Int} (hR : RI m a) (hs : rJ s) (hx : rJ x) (hy : rJ y) (hQ : ∀ m1, fr SL SF m m1 → Q (v_over a s x y) m1 γ t) : TI E (k + 7) 246 [.ref 158, .int (iI s), .int (iI x), .int (iI y)] m γ t Q := by
  unfold v_over at hQ
  refine vc_X9_over hs hx hy (S_areStrands hR hs hx hy (fun m1 c hf => b0 ?_) (fun m1 c1 c2 hf hG hS hP => b1 ?_))
  · have := hQ m1 hf
    rw [ift_f c] at this
    exact this
  · have hfin := hQ m1 hf
    have hle := hG.le
    rw [ift_t ⟨c1, c2⟩] at hfin
    refine upN (n := gn (a.1 s.toNat).1 (a.1 s.toNat).2.1) (P := fun e => hd_X9_over_19 E (k + 6) s x y x y (sumN (fun e => if oS (a.1 s.toNat) e = x ∧ uS (a.1 s.toNat) e = y then 1 else 0) e) (e : Int) m1 γ t Q) ?_ ?_ 0 (Nat.zero_le _)
    · have := xov_rg (a.1 s.toNat) x y (gn (a.1 s.toNat).1 (a.1 s.toNat).2.1)
      refine vc_X9_over_19 hs hx hy hx hy (by omega) (by omega) ?_
      unfold W_X9_over_19
      rw [hG.1.2.2.1]
      exact ⟨fun c => absurd c (by omega), fun c => hfin⟩
    · intro e he ih
      have := xov_rg (a.1 s.toNat) x y e
      refine vc_X9_over_19 hs hx hy hx hy (by omega) (by omega) ?_
      unfold W_X9_over_19
      rw [hG.1.2.2.1]
      simp only [sumN] at ih
      refine ⟨fun c => S_isOf e hG hP rfl he hx hy c1.2.1 c2.2.1 (fun hcx c3 => b1 ⟨by omega, fun c4 => ?_, fun c4 => ?_⟩) (fun c3 => b0 ?_), fun c => absurd c (by omega)⟩
      · rw [Int.toNat_natCast, (hP.1 e he hcx).1] at c4
        rw [if_pos (by omega)] at ih
        exact ih
      · rw [Int.toNat_natCast, (hP.1 e he hcx).1] at c4
        rw [if_neg (by omega)] at ih
        exact ih
      · rw [if_neg (by omega)] at ih
        exact ih
theorem S_signsOf {G : GV} {x y : Int} (hG : RG m G) (hP : RP m G) (hx : rJ x) (hy : rJ y) (hx0 : 0 ≤ x) (hy0 : 0 ≤ y) (hQ : Q (sof G x y (gn G.1 G.2.1)) m γ t) : TI E (k + 2) 248 [.ref 158, .int (iI x), .int (iI y)] m γ t Q := by
  have hle := hG.le
  refine vc_X9_signsOf hx hy ?_
  refine upN (n := gn G.1 G.2.1) (P := fun e => hd_X9_signsOf_5 E (k + 1) x y x y (sof G x y e) (e : Int) m γ t Q) ?_ ?_ 0 (Nat.zero_le _)
  · have := sof_rg G x y (gn G.1 G.2.1)
    refine vc_X9_signsOf_5 hx hy hx hy (by omega) (by omega) ?_
    unfold W_X9_signsOf_5
    rw [hG.1.2.2.1]
    exact ⟨fun c => absurd c (by omega), fun c => hQ⟩
  · intro e he ih
    have := sof_rg G x y e
    refine vc_X9_signsOf_5 hx hy hx hy (by omega) (by omega) ?_
    unfold W_X9_signsOf_5
    rw [hG.1.2.2.1]
    have ih : hd_X9_signsOf_5 E (k + 1) x y x y (sof G x y e + (if oS G e = x ∧ uS G e = y ∨ oS G e = y ∧ uS G e = x then sg G e else 0)) ((e : Int) + 1) m γ t Q := ih
    refine ⟨fun c => S_isOf e hG hP rfl he hx hy hx0 hy0 (fun hcx c3 => b1 (S_RsignOf e hG hP rfl he hcx ?_)) (fun c3 => b0 ?_), fun c => absurd c (by omega)⟩
    · rw [if_pos c3] at ih
      exact ih
    · rw [if_neg c3] at ih
      exact ih
theorem R_sign {s e : Int} (hR : RI m a) (hs : rJ s) (he : rJ e) (hQ : ∀ m1, fr SL SF m m1 → Q (v_sign a s e) m1 γ t) : TI E (k + 6) 247 [.ref 158, .int (iI s), .int (iI e)] m γ t Q := by
  unfold v_sign at hQ
  refine vc_X9_sign hs he (S_isEdge hR hs he (fun m1 c hf => b0 ?_) (fun m1 c hf hG hS hP => b1 ?_))
  · have := hQ m1 hf
    rw [ift_f c] at this
    exact this
  · have := hQ m1 hf
    have hle := hG.le
    have h2 := c.2
    have hk := hG.2.2.1.2 e.toNat (by omega)
    rw [ift_t c] at this
    rw [hG.2.1 e.toNat (by omega)]
    refine ⟨by omega, S_isCross (by omega) (fun c3 => b1 (S_RsignOf e.toNat hG hP (by omega) (by omega) c3 ⟨fun c4 => ?_, fun c4 => ?_⟩)) (fun c3 => b0 ?_)⟩
    · have hne : sg (a.1 s.toNat) e.toNat ≠ 0 := by
        unfold sg
        rw [if_pos c3]
        split <;> decide
      rw [if_neg hne, if_pos c4] at this
      exact this
    · rw [if_neg (by omega), if_neg c4] at this
      exact this
    · have h0 : sg (a.1 s.toNat) e.toNat = 0 := by
        unfold sg
        rw [if_neg c3]
      rw [if_pos h0] at this
      exact this
theorem R_twist {s x : Int} (hR : RI m a) (hs : rJ s) (hx : rJ x) (hQ : ∀ m1, fr SL SF m m1 → Q (v_twist a s x) m1 γ t) : TI E (k + 6) 249 [.ref 158, .int (iI s), .int (iI x)] m γ t Q := by
  unfold v_twist at hQ
  refine vc_X9_twist hs hx (S_isStrand hR hs hx (fun m1 c1 hf => b0 ?_) (fun m1 c1 c2 hf hG hS hP => b1 ?_))
  · have := hQ m1 hf
    rw [ift_f c1] at this
    exact this
  · have := hQ m1 hf
    rw [ift_t ⟨c1, c2⟩, ← sof_eq] at this
    exact S_signsOf hG hP hx hx c2.1 c2.1 this
theorem tdiv2_rg {z : Int} (h : -100 ≤ z ∧ z ≤ 100) : rJ (Int.tdiv z 2) := by
  rcases Int.le_total 0 z with h0 | h0
  · rw [Int.tdiv_eq_ediv_of_nonneg h0]
    omega
  · have h1 := Int.neg_tdiv (a := -z) (b := 2)
    rw [Int.neg_neg] at h1
    rw [h1, Int.tdiv_eq_ediv_of_nonneg (by omega)]
    omega
theorem R_link {s x y : Int} (hR : RI m a) (hs : rJ s) (hx : rJ x) (hy : rJ y) (hQ : ∀ m1, fr SL SF m m1 → Q (v_link a s x y) m1 γ t) : TI E (k + 7) 250 [.ref 158, .int (iI s), .int (iI x), .int (iI y)] m γ t Q := by
  unfold v_link at hQ
  refine vc_X9_link hs hx hy (S_areStrands hR hs hx hy (fun m1 c hf => b0 ?_) (fun m1 c1 c2 hf hG hS hP => b1 ⟨fun c3 => ?_, fun c3 => ?_⟩))
  · have := hQ m1 hf
    rw [ift_f (fun h => c ⟨h.1, h.2.1⟩)] at this
    exact this
  · have := hQ m1 hf
    rw [ift_f (fun h => h.2.2 c3)] at this
    exact this
  · have hfin := hQ m1 hf
    have hle := hG.le
    have := sof_rg (a.1 s.toNat) x y (gn (a.1 s.toNat).1 (a.1 s.toNat).2.1)
    rw [ift_t ⟨c1, c2, c3⟩, ← sof_ne c3] at hfin
    exact S_signsOf hG hP hx hy c1.2.1 c2.2.1 ⟨tdiv2_rg (by omega), hfin⟩
theorem R_alternates {s x : Int} (hR : RI m a) (hs : rJ s) (hx : rJ x) (hQ : ∀ m1, fr SL SF m m1 → Q (v_alternates a s x) m1 γ t) : TI E (k + 6) 252 [.ref 158, .int (iI s), .int (iI x)] m γ t Q := by
  unfold v_alternates at hQ
  refine vc_X9_alternates hs hx (S_isStrand hR hs hx (fun m1 c1 hf => b0 ?_) (fun m1 c1 c2 hf hG hS hP => b1 ?_))
  · have := hQ m1 hf
    rw [ift_f c1] at this
    exact this
  · have hfin := hQ m1 hf
    have hGv := hG.2.2.1
    have h64 := nC_le64 hGv
    have hn := nS_nC (a.1 s.toNat)
    have hP' := nP_le hGv
    have hxs : x.toNat < nS (a.1 s.toNat) := by omega
    have hb := pf_pn hGv hxs
    have e1 : pf (a.1 s.toNat) x.toNat = cp (a.1 s.toNat) (bg (a.1 s.toNat) x.toNat) := rfl
    rw [ift_t ⟨c1, c2⟩] at hfin
    refine S_passings x.toNat hGv hP (by omega) hxs ?_
    refine upN (n := pn (a.1 s.toNat) x.toNat) (P := fun i => (∀ i', i' < i → pOv (a.1 s.toNat) (pf (a.1 s.toNat) x.toNat + i') ≠ pOv (a.1 s.toNat) (pf (a.1 s.toNat) x.toNat + (i' + 1) % pn (a.1 s.toNat) x.toNat)) → hd_X9_alternates_21 E (k + 5) s x x (pn (a.1 s.toNat) x.toNat : Int) (i : Int) m1 γ t Q) ?_ ?_ 0 (Nat.zero_le _) (fun i' h => absurd h (Nat.not_lt_zero _))
    · intro hall
      refine vc_X9_alternates_21 hs hx hx (by omega) (by omega) ⟨fun c => absurd c (by omega), fun c => ?_⟩
      rw [ift_t (show alt (a.1 s.toNat) x.toNat from hall)] at hfin
      exact hfin
    · intro i hi ih hall
      have hmod : (((i : Int) + 1) % (pn (a.1 s.toNat) x.toNat : Int)) = (((i + 1) % pn (a.1 s.toNat) x.toNat : Nat) : Int) := by simp
      have hml := Nat.mod_lt (i + 1) (show 0 < pn (a.1 s.toNat) x.toNat by omega)
      refine vc_X9_alternates_21 hs hx hx (by omega) (by omega) ⟨fun c => ?_, fun c => absurd c (by omega)⟩
      rw [hP.2.2 x.toNat (by omega), pB_cp hGv (by omega), ← e1, hmod]
      generalize hq : (i + 1) % pn (a.1 s.toNat) x.toNat = q at *
      rw [show ((pf (a.1 s.toNat) x.toNat : Int) + (i : Int)).toNat = pf (a.1 s.toNat) x.toNat + i by omega, show ((pf (a.1 s.toNat) x.toNat : Int) + (q : Int)).toNat = pf (a.1 s.toNat) x.toNat + q by omega, (hP.2.1 _ (show pf (a.1 s.toNat) x.toNat + i < nP (a.1 s.toNat) by omega)).2, (hP.2.1 _ (show pf (a.1 s.toNat) x.toNat + q < nP (a.1 s.toNat) by omega)).2]
      refine ⟨by omega, by omega, by omega, by omega, by omega, by omega, by omega, fun c3 => ?_, fun c3 => ?_⟩
      · rw [ift_f (fun h => h i hi (by rw [hq]; exact c3))] at hfin
        exact hfin
      · have := ih (fun i' hi' => by
          by_cases e : i' = i
          · rw [e, hq]; exact c3
          · exact hall i' (by omega))
        rw [show ((i + 1 : Nat) : Int) = (i : Int) + 1 by omega] at this
        exact this
end R7
