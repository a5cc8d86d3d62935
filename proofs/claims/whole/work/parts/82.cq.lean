/-! ===== the class: looks at a grid ===== -/
noncomputable def ift (p : Prop) (x y : Int) : Int := @ite _ p (Classical.propDecidable p) x y
theorem ift_t {p : Prop} {x y : Int} (h : p) : ift p x y = x := @if_pos _ (Classical.propDecidable p) h _ _ _
theorem ift_f {p : Prop} {x y : Int} (h : ¬ p) : ift p x y = y := @if_neg _ (Classical.propDecidable p) h _ _ _
theorem sumN_rg {f : Nat → Int} {lo hi : Int} (h : ∀ e, lo ≤ f e ∧ f e ≤ hi) : ∀ n : Nat, lo * n ≤ sumN f n ∧ sumN f n ≤ hi * n
  | 0 => by simp [sumN]
  | n + 1 => by
    have ih := sumN_rg h n
    have h1 := h n
    have e1 : lo * ((n + 1 : Nat) : Int) = lo * n + lo := by rw [Int.natCast_add, Int.mul_add]; simp
    have e2 : hi * ((n + 1 : Nat) : Int) = hi * n + hi := by rw [Int.natCast_add, Int.mul_add]; simp
    simp only [sumN]
    omega
def xov (G : GV) (a b : Int) : Int := sumN (fun e => if oS G e = a ∧ uS G e = b then 1 else 0) (gn G.1 G.2.1)
def sov (G : GV) (a b : Int) : Int := sumN (fun e => if oS G e = a ∧ uS G e = b then sg G e else 0) (gn G.1 G.2.1)
def sga (G : GV) : Int := sumN (sg G) (gn G.1 G.2.1)
theorem sg_rg (G : GV) (e : Nat) : -1 ≤ sg G e ∧ sg G e ≤ 1 := by unfold sg; split; split <;> omega; omega
theorem xov_rg (G : GV) (a b : Int) (n : Nat) : 0 ≤ sumN (fun e => if oS G e = a ∧ uS G e = b then 1 else 0) n ∧ sumN (fun e => if oS G e = a ∧ uS G e = b then 1 else 0) n ≤ n := by
  have := sumN_rg (f := fun e => if oS G e = a ∧ uS G e = b then 1 else 0) (lo := 0) (hi := 1) (fun e => by split <;> omega) n
  omega
theorem sov_rg (G : GV) (a b : Int) (n : Nat) : -n ≤ sumN (fun e => if oS G e = a ∧ uS G e = b then sg G e else 0) n ∧ sumN (fun e => if oS G e = a ∧ uS G e = b then sg G e else 0) n ≤ n := by
  have := sumN_rg (f := fun e => if oS G e = a ∧ uS G e = b then sg G e else 0) (lo := -1) (hi := 1) (fun e => by have := sg_rg G e; split <;> omega) n
  omega
theorem sga_rg (G : GV) (n : Nat) : -n ≤ sumN (sg G) n ∧ sumN (sg G) n ≤ n := by
  have := sumN_rg (f := sg G) (lo := -1) (hi := 1) (sg_rg G) n
  omega
section C3
variable {E : am_E} {k : Nat} {m : MM} {γ : GM} {t : am_H} {G : GV}
theorem S_crossesOver {Q : Int → MM → GM → am_H → Prop} {a b : Int} (hT : TrOK m G) (hG : vG G) (hγ : γ 11 = G) (ha : rJ a) (hb : rJ b) (hQ : Q (xov G a b) m γ t) : TI E (k + 2) 116 [.ref 10, .int (iI a), .int (iI b)] m γ t Q := by
  have hgn := gn_le _ hG.1.le.1 _ hG.1.le.2
  refine vc_X7_crossesOver ha hb ?_
  refine upN (n := gn G.1 G.2.1) (P := fun e => hd_X7_crossesOver_5 E (k + 1) a b a b (sumN (fun e => if oS G e = a ∧ uS G e = b then 1 else 0) e) (e : Int) m γ t Q) ?_ ?_ 0 (Nat.zero_le _)
  · have := xov_rg G a b (gn G.1 G.2.1)
    refine vc_X7_crossesOver_5 ha hb ha hb (by omega) (by omega) (S_edges (gi rfl) (fun _ => ?_))
    rw [hγ]
    exact ⟨fun c => absurd c (by omega), fun c => hQ⟩
  · intro e he ih
    have := xov_rg G a b e
    refine vc_X7_crossesOver_5 ha hb ha hb (by omega) (by omega) (S_edges (gi rfl) (fun _ => ?_))
    rw [hγ]
    simp only [sumN] at ih
    refine ⟨fun c => S_overStrand e hT hG rfl he ⟨fun c1 => S_underStrand e hT hG rfl he ⟨fun c2 => ?_, fun c2 => ?_⟩, fun c1 => ?_⟩, fun c => absurd c (by omega)⟩
    · rw [if_pos ⟨c1, c2⟩] at ih
      exact ih
    · rw [if_neg (fun q => c2 q.2), Int.add_zero] at ih
      exact ih
    · rw [if_neg (fun q => c1 q.1), Int.add_zero] at ih
      exact ih
theorem S_signsOver {Q : Int → MM → GM → am_H → Prop} {a b : Int} (hT : TrOK m G) (hG : vG G) (hγ : γ 11 = G) (ha : rJ a) (hb : rJ b) (hQ : Q (sov G a b) m γ t) : TI E (k + 3) 117 [.ref 10, .int (iI a), .int (iI b)] m γ t Q := by
  have hgn := gn_le _ hG.1.le.1 _ hG.1.le.2
  refine vc_X7_signsOver ha hb ?_
  refine upN (n := gn G.1 G.2.1) (P := fun e => hd_X7_signsOver_5 E (k + 2) a b a b (sumN (fun e => if oS G e = a ∧ uS G e = b then sg G e else 0) e) (e : Int) m γ t Q) ?_ ?_ 0 (Nat.zero_le _)
  · have := sov_rg G a b (gn G.1 G.2.1)
    refine vc_X7_signsOver_5 ha hb ha hb (by omega) (by omega) (S_edges (gi rfl) (fun _ => ?_))
    rw [hγ]
    exact ⟨fun c => absurd c (by omega), fun c => hQ⟩
  · intro e he ih
    have := sov_rg G a b e
    refine vc_X7_signsOver_5 ha hb ha hb (by omega) (by omega) (S_edges (gi rfl) (fun _ => ?_))
    rw [hγ]
    simp only [sumN] at ih
    refine ⟨fun c => S_overStrand e hT hG rfl he ⟨fun c1 => S_underStrand e hT hG rfl he ⟨fun c2 => S_signOf e hT hG hγ rfl he ?_, fun c2 => ?_⟩, fun c1 => ?_⟩, fun c => absurd c (by omega)⟩
    · rw [if_pos ⟨c1, c2⟩] at ih
      exact ih
    · rw [if_neg (fun q => c2 q.2), Int.add_zero] at ih
      exact ih
    · rw [if_neg (fun q => c1 q.1), Int.add_zero] at ih
      exact ih
theorem S_signsOfAll {Q : Int → MM → GM → am_H → Prop} (hT : TrOK m G) (hG : vG G) (hγ : γ 11 = G) (hQ : Q (sga G) m γ t) : TI E (k + 3) 115 [.ref 10] m γ t Q := by
  have hgn := gn_le _ hG.1.le.1 _ hG.1.le.2
  refine vc_X7_signsOfAll ?_
  refine upN (n := gn G.1 G.2.1) (P := fun e => hd_X7_signsOfAll_4 E (k + 2) (sumN (sg G) e) (e : Int) m γ t Q) ?_ ?_ 0 (Nat.zero_le _)
  · have := sga_rg G (gn G.1 G.2.1)
    refine vc_X7_signsOfAll_4 (by omega) (by omega) (S_edges (gi rfl) (fun _ => ?_))
    rw [hγ]
    exact ⟨fun c => absurd c (by omega), fun c => hQ⟩
  · intro e he ih
    have := sga_rg G e
    refine vc_X7_signsOfAll_4 (by omega) (by omega) (S_edges (gi rfl) (fun _ => ?_))
    rw [hγ]
    exact ⟨fun c => S_signOf e hT hG hγ rfl he ih, fun c => absurd c (by omega)⟩
/-- over and under in turn -/
def alt (G : GV) (s : Nat) : Prop := ∀ i, i < pn G s → pOv G (pf G s + i) ≠ pOv G (pf G s + (i + 1) % pn G s)
theorem pOv_01 (hG : vG G) {j : Nat} (hj : j < nP G) : pOv G j = 0 ∨ pOv G j = 1 := by
  obtain ⟨y, hy, hyj, -⟩ := pas_get hj
  have := (pSt_y hy).2.2.2.2
  rw [hyj] at this
  rw [this]
  cases pO G y.2.2 <;> simp [bb]
theorem S_goesInTurn {Q : Int → MM → GM → am_H → Prop} {z : Int} (s : Nat) (hT : TrOK m G) (hG : vG G) (hz : z = (s : Int)) (hs : s < nS G) (q1 : alt G s → Q 1 m γ t) (q0 : ¬ alt G s → Q 0 m γ t) : TI E (k + 4) 118 [.ref 10, .int (iI z)] m γ t Q := by
  have hP := nP_le hG
  have hb := pf_pn hG hs
  have h64 := nC_le64 hG
  have hnS := nS_nC G
  subst hz
  refine vc_X7_goesInTurn (by omega) (S_passesOn s hT hG rfl hs ?_)
  refine upN (n := pn G s) (P := fun i => (∀ i', i' < i → pOv G (pf G s + i') ≠ pOv G (pf G s + (i' + 1) % pn G s)) → hd_X7_goesInTurn_8 E (k + 3) (s : Int) (s : Int) (pn G s : Int) (i : Int) m γ t Q) ?_ ?_ 0 (Nat.zero_le _) (fun i' h => absurd h (Nat.not_lt_zero _))
  · intro hall
    exact vc_X7_goesInTurn_8 (by omega) (by omega) (by omega) (by omega) ⟨fun c => absurd c (by omega), fun c => q1 hall⟩
  · intro i hi ih hall
    have d1 := pOv_01 hG (show pf G s + i < nP G by omega)
    have nxt : pOv G (pf G s + i) ≠ pOv G (pf G s + (i + 1) % pn G s) → hd_X7_goesInTurn_8 E (k + 3) (s : Int) (s : Int) (pn G s : Int) ((i : Int) + 1) m γ t Q := by
      intro hne
      have := ih (fun i' hi' => by
        by_cases e : i' = i
        · rw [e]; exact hne
        · exact hall i' (by omega))
      rw [show ((i + 1 : Nat) : Int) = (i : Int) + 1 by omega] at this
      exact this
    have no : pOv G (pf G s + i) = pOv G (pf G s + (i + 1) % pn G s) → Q 0 m γ t := fun he => q0 (fun h => h i hi he)
    refine vc_X7_goesInTurn_8 (by omega) (by omega) (by omega) (by omega) ⟨fun c => ⟨by omega, fun c1 => ?_, fun c1 => ?_⟩, fun c => absurd c (by omega)⟩
    · have e1 : (i + 1) % pn G s = i + 1 := Nat.mod_eq_of_lt (by omega)
      rw [e1] at no nxt
      refine S_isOverAt s hT hG rfl hs (by omega) (fun a1 => S_isOverAt s hT hG rfl hs (by omega) (fun a2 => ?_) (fun a2 => ?_)) (fun a1 => S_isOverAt s hT hG rfl hs (by omega) (fun a2 => ?_) (fun a2 => ?_))
      · rw [Int.toNat_natCast] at a1
        rw [show ((i : Int) + 1).toNat = i + 1 by omega] at a2
        exact ⟨fun _ => no (by rw [a1, a2]), fun q => absurd rfl q⟩
      · rw [Int.toNat_natCast] at a1
        rw [show ((i : Int) + 1).toNat = i + 1 by omega] at a2
        exact ⟨fun q => absurd q (by decide), fun _ => nxt (by rw [a1, a2]; decide)⟩
      · rw [Int.toNat_natCast] at a1
        rw [show ((i : Int) + 1).toNat = i + 1 by omega] at a2
        exact ⟨fun q => absurd q (by decide), fun _ => nxt (by rw [a1, a2]; decide)⟩
      · rw [Int.toNat_natCast] at a1
        rw [show ((i : Int) + 1).toNat = i + 1 by omega] at a2
        exact ⟨fun _ => no (by rw [a1, a2]), fun q => absurd rfl q⟩
    · have e1 : (i + 1) % pn G s = 0 := by rw [show i + 1 = pn G s by omega]; exact Nat.mod_self _
      rw [e1] at no nxt
      refine S_isOverAt s hT hG rfl hs (by omega) (fun a1 => S_isOverAt s hT hG rfl hs (by omega) (fun a2 => ?_) (fun a2 => ?_)) (fun a1 => S_isOverAt s hT hG rfl hs (by omega) (fun a2 => ?_) (fun a2 => ?_))
      · rw [Int.toNat_natCast] at a1
        have a2 : pOv G (pf G s + 0) = 1 := a2
        exact ⟨fun _ => no (by rw [a1, a2]), fun q => absurd rfl q⟩
      · rw [Int.toNat_natCast] at a1
        have a2 : pOv G (pf G s + 0) = 0 := a2
        exact ⟨fun q => absurd q (by decide), fun _ => nxt (by rw [a1, a2]; decide)⟩
      · rw [Int.toNat_natCast] at a1
        have a2 : pOv G (pf G s + 0) = 1 := a2
        exact ⟨fun q => absurd q (by decide), fun _ => nxt (by rw [a1, a2]; decide)⟩
      · rw [Int.toNat_natCast] at a1
        have a2 : pOv G (pf G s + 0) = 0 := a2
        exact ⟨fun _ => no (by rw [a1, a2]), fun q => absurd rfl q⟩
end C3
/-! the answers -/
section VAL
variable (a : AST)
def isE (s e : Int) : Prop := isG a.1 s ∧ 0 ≤ e ∧ e < gn (a.1 s.toNat).1 (a.1 s.toNat).2.1
def isCo (s c x : Int) : Prop := isG a.1 s ∧ (0 ≤ c ∧ c < (((a.1 s.toNat).1 * (a.1 s.toNat).2.1 : Nat) : Int)) ∧ 0 ≤ x ∧ x ≤ 3
def isT (s x : Int) : Prop := isG a.1 s ∧ 0 ≤ x ∧ x < nS (a.1 s.toNat)
noncomputable def v_edge (s e : Int) : Int := ift (isE a s e) ((a.1 s.toNat).2.2 e.toNat) (-2)
noncomputable def v_name (s e w : Int) : Int := ift (isE a s e ∧ (w = 0 ∨ w = 1)) (if w = 0 then gcell (a.1 s.toNat).1 (a.1 s.toNat).2.1 e.toNat else gbel (a.1 s.toNat).1 (a.1 s.toNat).2.1 e.toNat) (-2)
noncomputable def v_edgeOf (s c b : Int) : Int := ift (isCo a s c 0 ∧ (b = 0 ∨ b = 1)) (geb (a.1 s.toNat).1 (a.1 s.toNat).2.1 (2 * c.toNat + b.toNat)) (-2)
noncomputable def v_strand (s c x : Int) : Int := ift (isCo a s c x) (tS (a.1 s.toNat) (4 * c.toNat + x.toNat)) (-2)
noncomputable def v_place (s c x : Int) : Int := ift (isCo a s c x) (tP (a.1 s.toNat) (4 * c.toNat + x.toNat)) (-2)
noncomputable def v_paint (s c x : Int) : Int := ift (isCo a s c x) (tP (a.1 s.toNat) (4 * c.toNat + x.toNat) % 2) (-2)
noncomputable def v_walk (s x i : Int) : Int := ift (isT a s x ∧ 0 ≤ i) (ift (i < ln (a.1 s.toNat) x.toNat) (tO (a.1 s.toNat) (bg (a.1 s.toNat) x.toNat + i.toNat)) (-1)) (-2)
noncomputable def v_length (s x : Int) : Int := ift (isT a s x) (ln (a.1 s.toNat) x.toNat) (-2)
noncomputable def v_meets (s x y : Int) : Int := ift (isT a s x ∧ isT a s y) (if x = y then xov (a.1 s.toNat) x y else xov (a.1 s.toNat) x y + xov (a.1 s.toNat) y x) (-2)
noncomputable def v_over (s x y : Int) : Int := ift (isT a s x ∧ isT a s y) (xov (a.1 s.toNat) x y) (-2)
noncomputable def v_sign (s e : Int) : Int := ift (isE a s e) (if sg (a.1 s.toNat) e.toNat = 0 then -1 else if sg (a.1 s.toNat) e.toNat ≤ 0 then 0 else 1) (-2)
noncomputable def v_twist (s x : Int) : Int := ift (isT a s x) (sov (a.1 s.toNat) x x) (-1000)
noncomputable def v_link (s x y : Int) : Int := ift (isT a s x ∧ isT a s y ∧ x ≠ y) (Int.tdiv (sov (a.1 s.toNat) x y + sov (a.1 s.toNat) y x) 2) (-1000)
noncomputable def v_alternates (s x : Int) : Int := ift (isT a s x) (ift (alt (a.1 s.toNat) x.toNat) 1 0) (-2)
noncomputable def v_passed (s x i : Int) : Int := ift (isT a s x ∧ 0 ≤ i) (ift (i < pn (a.1 s.toNat) x.toNat) (pEd (a.1 s.toNat) (pf (a.1 s.toNat) x.toNat + i.toNat)) (-1)) (-2)
end VAL
section C4
variable {E : am_E} {k : Nat} {m : MM} {γ : GM} {t : am_H} {a : AST} {Q : Int → MM → GM → am_H → Prop}
theorem C_edge {s e : Int} (hC : CI m γ a) (hs : rJ s) (he : rJ e) (hQ : ∀ m1 γ1, CI m1 γ1 a → rsame m m1 → Q (v_edge a s e) m1 γ1 t) : TI E (k + 2) 135 [.ref 0, .int (iI s), .int (iI e)] m γ t Q := by
  have hQ := hQ m γ hC (fun _ _ => rfl)
  unfold v_edge at hQ
  refine vc_X8_edge hs he (S_gridIn hC hs (fun c1 => oN ?_) (fun c1 => oSm ?_))
  · rw [ift_f (fun h => c1 h.1)] at hQ
    exact hQ
  · obtain ⟨i1, i2, i3⟩ := c1.i hC
    refine ⟨i1, S_hasEdge i1 he (fun c2 => b1 ?_) (fun c2 => b0 ?_)⟩
    · rw [i2] at c2
      rw [ift_t ⟨c1, c2⟩] at hQ
      refine S_kindOf e.toNat i1 (by omega) (by rw [i2]; omega) (fun _ => ?_)
      rw [i2]
      exact hQ
    · rw [i2] at c2
      rw [ift_f (fun h => c2 h.2)] at hQ
      exact hQ
theorem C_name {s e w : Int} (hC : CI m γ a) (hs : rJ s) (he : rJ e) (hw : rJ w) (hQ : ∀ m1 γ1, CI m1 γ1 a → rsame m m1 → Q (v_name a s e w) m1 γ1 t) : TI E (k + 2) 136 [.ref 0, .int (iI s), .int (iI e), .int (iI w)] m γ t Q := by
  have hQ := hQ m γ hC (fun _ _ => rfl)
  unfold v_name at hQ
  refine vc_X8_name hs he hw (S_gridIn hC hs (fun c1 => oN ?_) (fun c1 => oSm ?_))
  · rw [ift_f (fun h => c1 h.1.1)] at hQ
    exact hQ
  · obtain ⟨i1, i2, i3⟩ := c1.i hC
    refine ⟨i1, S_hasEdge i1 he (fun c2 => b1 (S_isBit hw (fun c3 => b1 ⟨fun c4 => ?_, fun c4 => ?_⟩) (fun c3 => b0 ?_))) (fun c2 => b0 ?_)⟩
    · rw [i2] at c2
      rw [ift_t ⟨⟨c1, c2⟩, c3⟩, if_pos c4] at hQ
      refine S_cellOf e.toNat i1 (by omega) (by rw [i2]; omega) (fun _ => ?_)
      rw [i2]
      exact hQ
    · rw [i2] at c2
      rw [ift_t ⟨⟨c1, c2⟩, c3⟩, if_neg c4] at hQ
      refine S_belowOf e.toNat i1 (by omega) (by rw [i2]; omega) (fun _ => ?_)
      rw [i2]
      exact hQ
    · rw [ift_f (fun h => c3 h.2)] at hQ
      exact hQ
    · rw [i2] at c2
      rw [ift_f (fun h => c2 h.1.2)] at hQ
      exact hQ
theorem C_edgeOf {s c b : Int} (hC : CI m γ a) (hs : rJ s) (hc : rJ c) (hb : rJ b) (hQ : ∀ m1 γ1, CI m1 γ1 a → rsame m m1 → Q (v_edgeOf a s c b) m1 γ1 t) : TI E (k + 2) 137 [.ref 0, .int (iI s), .int (iI c), .int (iI b)] m γ t Q := by
  have hQ := hQ m γ hC (fun _ _ => rfl)
  unfold v_edgeOf at hQ
  refine vc_X8_edgeOf hs hc hb (S_gridIn hC hs (fun c1 => oN ?_) (fun c1 => oSm ?_))
  · rw [ift_f (fun h => c1 h.1.1)] at hQ
    exact hQ
  · obtain ⟨i1, i2, i3⟩ := c1.i hC
    refine ⟨i1, S_hasCellG i1 hc (fun c2 => b1 (S_isBit hb (fun c3 => b1 ?_) (fun c3 => b0 ?_))) (fun c2 => b0 ?_)⟩
    · rw [i2] at c2
      rw [ift_t ⟨⟨c1, c2, by decide, by decide⟩, c3⟩] at hQ
      refine S_edgeAt c.toNat b.toNat i1 (by omega) (by omega) (by rw [i2]; omega) (by omega) (fun _ => ?_)
      rw [i2]
      exact hQ
    · rw [ift_f (fun h => c3 h.2)] at hQ
      exact hQ
    · rw [i2] at c2
      rw [ift_f (fun h => c2 h.1.2.1)] at hQ
      exact hQ
theorem co_lt {s c x : Int} (h1 : 0 ≤ c ∧ c < (((a.1 s.toNat).1 * (a.1 s.toNat).2.1 : Nat) : Int)) (h2 : 0 ≤ x ∧ x ≤ 3) : 4 * c.toNat + x.toNat < nC (a.1 s.toNat) := by
  unfold nC
  omega
theorem C_strand {s c x : Int} (hC : CI m γ a) (hs : rJ s) (hc : rJ c) (hx : rJ x) (hQ : ∀ m1 γ1, CI m1 γ1 a → rsame m m1 → Q (v_strand a s c x) m1 γ1 t) : TI E (k + 6) 138 [.ref 0, .int (iI s), .int (iI c), .int (iI x)] m γ t Q := by
  unfold v_strand at hQ
  refine vc_X8_strand hs hc hx (S_traceOfCorner hC hs hc hx (fun c1 => oN ?_) (fun c1 c2 c3 m1 γ1 hC1 hT hγ hr => oSm ⟨rfl, ?_⟩))
  · have := hQ m γ hC (fun _ _ => rfl)
    rw [ift_f (show ¬ isCo a s c x from c1)] at this
    exact this
  · have := hQ m1 γ1 hC1 hr
    rw [ift_t ⟨c1, c2, c3⟩] at this
    exact S_strandAt (4 * c.toNat + x.toNat) hT (c1.i hC).2.2.1 (by omega) (co_lt c2 c3) this
theorem C_place {s c x : Int} (hC : CI m γ a) (hs : rJ s) (hc : rJ c) (hx : rJ x) (hQ : ∀ m1 γ1, CI m1 γ1 a → rsame m m1 → Q (v_place a s c x) m1 γ1 t) : TI E (k + 6) 139 [.ref 0, .int (iI s), .int (iI c), .int (iI x)] m γ t Q := by
  unfold v_place at hQ
  refine vc_X8_place hs hc hx (S_traceOfCorner hC hs hc hx (fun c1 => oN ?_) (fun c1 c2 c3 m1 γ1 hC1 hT hγ hr => oSm ⟨rfl, ?_⟩))
  · have := hQ m γ hC (fun _ _ => rfl)
    rw [ift_f (show ¬ isCo a s c x from c1)] at this
    exact this
  · have := hQ m1 γ1 hC1 hr
    rw [ift_t ⟨c1, c2, c3⟩] at this
    exact S_placeAt (4 * c.toNat + x.toNat) hT (c1.i hC).2.2.1 (by omega) (co_lt c2 c3) this
theorem C_paint {s c x : Int} (hC : CI m γ a) (hs : rJ s) (hc : rJ c) (hx : rJ x) (hQ : ∀ m1 γ1, CI m1 γ1 a → rsame m m1 → Q (v_paint a s c x) m1 γ1 t) : TI E (k + 6) 152 [.ref 0, .int (iI s), .int (iI c), .int (iI x)] m γ t Q := by
  unfold v_paint at hQ
  refine vc_X8_paint hs hc hx (S_traceOfCorner hC hs hc hx (fun c1 => oN ?_) (fun c1 c2 c3 m1 γ1 hC1 hT hγ hr => oSm ⟨rfl, ?_⟩))
  · have := hQ m γ hC (fun _ _ => rfl)
    rw [ift_f (show ¬ isCo a s c x from c1)] at this
    exact this
  · have := hQ m1 γ1 hC1 hr
    rw [ift_t ⟨c1, c2, c3⟩] at this
    exact S_paintAt (4 * c.toNat + x.toNat) hT (c1.i hC).2.2.1 (by omega) (co_lt c2 c3) this
theorem C_walk {s x i : Int} (hC : CI m γ a) (hs : rJ s) (hx : rJ x) (hi : rJ i) (hQ : ∀ m1 γ1, CI m1 γ1 a → rsame m m1 → Q (v_walk a s x i) m1 γ1 t) : TI E (k + 6) 140 [.ref 0, .int (iI s), .int (iI x), .int (iI i)] m γ t Q := by
  unfold v_walk at hQ
  refine vc_X8_walk hs hx hi (S_traceOfStrand hC hs hx (fun c1 m1 γ1 hC1 hr => oN ?_) (fun c1 c2 m1 γ1 hC1 hT hγ hr => oSm ⟨rfl, fun c3 => ?_, fun c3 => ?_⟩))
  · have := hQ m1 γ1 hC1 hr
    rw [ift_f (fun h => c1 h.1)] at this
    exact this
  · have := hQ m1 γ1 hC1 hr
    rw [ift_f (fun h => by have := h.2; omega)] at this
    exact this
  · have := hQ m1 γ1 hC1 hr
    rw [ift_t ⟨⟨c1, c2⟩, by omega⟩] at this
    refine S_cornerOn x.toNat hT (c1.i hC).2.2.1 (by omega) (by omega) hi (fun c4 => ?_) (fun c4 => ?_)
    · rw [ift_t c4.2] at this
      exact this
    · rw [ift_f (fun h => c4 ⟨by omega, h⟩)] at this
      exact this
theorem C_length {s x : Int} (hC : CI m γ a) (hs : rJ s) (hx : rJ x) (hQ : ∀ m1 γ1, CI m1 γ1 a → rsame m m1 → Q (v_length a s x) m1 γ1 t) : TI E (k + 6) 141 [.ref 0, .int (iI s), .int (iI x)] m γ t Q := by
  unfold v_length at hQ
  refine vc_X8_length hs hx (S_traceOfStrand hC hs hx (fun c1 m1 γ1 hC1 hr => oN ?_) (fun c1 c2 m1 γ1 hC1 hT hγ hr => oSm ⟨rfl, ?_⟩))
  · have := hQ m1 γ1 hC1 hr
    rw [ift_f (show ¬ isT a s x from c1)] at this
    exact this
  · have := hQ m1 γ1 hC1 hr
    rw [ift_t ⟨c1, c2⟩] at this
    exact S_cornersOn x.toNat hT (c1.i hC).2.2.1 (by omega) (by omega) this
theorem C_meets {s x y : Int} (hC : CI m γ a) (hs : rJ s) (hx : rJ x) (hy : rJ y) (hQ : ∀ m1 γ1, CI m1 γ1 a → rsame m m1 → Q (v_meets a s x y) m1 γ1 t) : TI E (k + 6) 142 [.ref 0, .int (iI s), .int (iI x), .int (iI y)] m γ t Q := by
  unfold v_meets at hQ
  refine vc_X8_meets hs hx hy (S_traceOfStrand hC hs hx (fun c1 m1 γ1 hC1 hr => oN ?_) (fun c1 c2 m1 γ1 hC1 hT hγ hr => oSm ⟨rfl, S_hasStrand hT hy (fun c3 => b1 ?_) (fun c3 => b0 ?_)⟩))
  · have := hQ m1 γ1 hC1 hr
    rw [ift_f (fun h => c1 h.1)] at this
    exact this
  · have := hQ m1 γ1 hC1 hr
    rw [ift_t ⟨⟨c1, c2⟩, ⟨c1, c3⟩⟩] at this
    have hG := (c1.i hC).2.2.1
    have hgn := gn_le _ hG.1.le.1 _ hG.1.le.2
    have r1 := xov_rg (a.1 s.toNat) x y (gn (a.1 s.toNat).1 (a.1 s.toNat).2.1)
    have r2 := xov_rg (a.1 s.toNat) y x (gn (a.1 s.toNat).1 (a.1 s.toNat).2.1)
    refine S_crossesOver hT hG hγ hx hy ⟨fun c4 => ?_, fun c4 => S_crossesOver hT hG hγ hy hx ⟨?_, ?_⟩⟩
    · rw [if_pos c4] at this
      exact this
    · unfold xov
      omega
    · rw [if_neg c4] at this
      exact this
  · have := hQ m1 γ1 hC1 hr
    rw [ift_f (fun h => c3 h.2.2)] at this
    exact this
theorem C_over {s x y : Int} (hC : CI m γ a) (hs : rJ s) (hx : rJ x) (hy : rJ y) (hQ : ∀ m1 γ1, CI m1 γ1 a → rsame m m1 → Q (v_over a s x y) m1 γ1 t) : TI E (k + 6) 143 [.ref 0, .int (iI s), .int (iI x), .int (iI y)] m γ t Q := by
  unfold v_over at hQ
  refine vc_X8_over hs hx hy (S_traceOfStrand hC hs hx (fun c1 m1 γ1 hC1 hr => oN ?_) (fun c1 c2 m1 γ1 hC1 hT hγ hr => oSm ⟨rfl, S_hasStrand hT hy (fun c3 => b1 ?_) (fun c3 => b0 ?_)⟩))
  · have := hQ m1 γ1 hC1 hr
    rw [ift_f (fun h => c1 h.1)] at this
    exact this
  · have := hQ m1 γ1 hC1 hr
    rw [ift_t ⟨⟨c1, c2⟩, ⟨c1, c3⟩⟩] at this
    exact S_crossesOver hT (c1.i hC).2.2.1 hγ hx hy this
  · have := hQ m1 γ1 hC1 hr
    rw [ift_f (fun h => c3 h.2.2)] at this
    exact this
theorem C_sign {s e : Int} (hC : CI m γ a) (hs : rJ s) (he : rJ e) (hQ : ∀ m1 γ1, CI m1 γ1 a → rsame m m1 → Q (v_sign a s e) m1 γ1 t) : TI E (k + 6) 144 [.ref 0, .int (iI s), .int (iI e)] m γ t Q := by
  unfold v_sign at hQ
  refine vc_X8_sign hs he (S_gridIn hC hs (fun c1 => oN ?_) (fun c1 => oSm ?_))
  · have := hQ m γ hC (fun _ _ => rfl)
    rw [ift_f (fun h => c1 h.1)] at this
    exact this
  · obtain ⟨i1, i2, i3, -⟩ := c1.i hC
    refine ⟨i1, S_hasEdge i1 he (fun c2 => b1 (S_traceOf hC c1 (fun m1 γ1 hC1 hT hγ hr _ => ⟨rfl, ?_⟩))) (fun c2 => b0 ?_)⟩
    · rw [i2] at c2
      have := hQ m1 γ1 hC1 hr
      rw [ift_t ⟨c1, c2⟩] at this
      refine S_signOf e.toNat hT i3 hγ (by omega) (by omega) ⟨fun c3 => ?_, fun c3 => ⟨fun c4 => ?_, fun c4 => ?_⟩⟩
      · rw [if_pos c3] at this
        exact this
      · rw [if_neg c3, if_pos c4] at this
        exact this
      · rw [if_neg c3, if_neg c4] at this
        exact this
    · rw [i2] at c2
      have := hQ m γ hC (fun _ _ => rfl)
      rw [ift_f (fun h => c2 h.2)] at this
      exact this
theorem C_twist {s x : Int} (hC : CI m γ a) (hs : rJ s) (hx : rJ x) (hQ : ∀ m1 γ1, CI m1 γ1 a → rsame m m1 → Q (v_twist a s x) m1 γ1 t) : TI E (k + 6) 145 [.ref 0, .int (iI s), .int (iI x)] m γ t Q := by
  unfold v_twist at hQ
  refine vc_X8_twist hs hx (S_traceOfStrand hC hs hx (fun c1 m1 γ1 hC1 hr => oN ?_) (fun c1 c2 m1 γ1 hC1 hT hγ hr => oSm ⟨rfl, ?_⟩))
  · have := hQ m1 γ1 hC1 hr
    rw [ift_f (show ¬ isT a s x from c1)] at this
    exact this
  · have := hQ m1 γ1 hC1 hr
    rw [ift_t ⟨c1, c2⟩] at this
    exact S_signsOver hT (c1.i hC).2.2.1 hγ hx hx this
theorem C_link {s x y : Int} (hC : CI m γ a) (hs : rJ s) (hx : rJ x) (hy : rJ y) (hQ : ∀ m1 γ1, CI m1 γ1 a → rsame m m1 → Q (v_link a s x y) m1 γ1 t) : TI E (k + 6) 146 [.ref 0, .int (iI s), .int (iI x), .int (iI y)] m γ t Q := by
  unfold v_link at hQ
  refine vc_X8_link hs hx hy (S_traceOfStrand hC hs hx (fun c1 m1 γ1 hC1 hr => oN ?_) (fun c1 c2 m1 γ1 hC1 hT hγ hr => oSm ⟨rfl, S_hasStrand hT hy (fun c3 => b1 ⟨fun c4 => ?_, fun c4 => ?_⟩) (fun c3 => b0 ?_)⟩))
  · have := hQ m1 γ1 hC1 hr
    rw [ift_f (fun h => c1 h.1)] at this
    exact this
  · have := hQ m1 γ1 hC1 hr
    rw [ift_f (fun h => h.2.2 c4)] at this
    exact this
  · have := hQ m1 γ1 hC1 hr
    rw [ift_t ⟨⟨c1, c2⟩, ⟨c1, c3⟩, c4⟩] at this
    have hG := (c1.i hC).2.2.1
    have hgn := gn_le _ hG.1.le.1 _ hG.1.le.2
    have r1 := sov_rg (a.1 s.toNat) x y (gn (a.1 s.toNat).1 (a.1 s.toNat).2.1)
    have r2 := sov_rg (a.1 s.toNat) y x (gn (a.1 s.toNat).1 (a.1 s.toNat).2.1)
    refine S_signsOver hT hG hγ hx hy (S_signsOver hT hG hγ hy hx ⟨?_, ?_, this⟩)
    · unfold sov
      omega
    · unfold sov
      rcases Int.le_total 0 (sumN (fun e => if oS (a.1 s.toNat) e = x ∧ uS (a.1 s.toNat) e = y then sg (a.1 s.toNat) e else 0) (gn (a.1 s.toNat).1 (a.1 s.toNat).2.1) + sumN (fun e => if oS (a.1 s.toNat) e = y ∧ uS (a.1 s.toNat) e = x then sg (a.1 s.toNat) e else 0) (gn (a.1 s.toNat).1 (a.1 s.toNat).2.1)) with h0 | h0
      · rw [Int.tdiv_eq_ediv_of_nonneg h0]
        omega
      · have h1 := Int.neg_tdiv (a := -(sumN (fun e => if oS (a.1 s.toNat) e = x ∧ uS (a.1 s.toNat) e = y then sg (a.1 s.toNat) e else 0) (gn (a.1 s.toNat).1 (a.1 s.toNat).2.1) + sumN (fun e => if oS (a.1 s.toNat) e = y ∧ uS (a.1 s.toNat) e = x then sg (a.1 s.toNat) e else 0) (gn (a.1 s.toNat).1 (a.1 s.toNat).2.1))) (b := 2)
        rw [Int.neg_neg] at h1
        rw [h1, Int.tdiv_eq_ediv_of_nonneg (by omega)]
        omega
  · have := hQ m1 γ1 hC1 hr
    rw [ift_f (fun h => c3 h.2.1.2)] at this
    exact this
theorem C_alternates {s x : Int} (hC : CI m γ a) (hs : rJ s) (hx : rJ x) (hQ : ∀ m1 γ1, CI m1 γ1 a → rsame m m1 → Q (v_alternates a s x) m1 γ1 t) : TI E (k + 6) 147 [.ref 0, .int (iI s), .int (iI x)] m γ t Q := by
  unfold v_alternates at hQ
  refine vc_X8_alternates hs hx (S_traceOfStrand hC hs hx (fun c1 m1 γ1 hC1 hr => oN ?_) (fun c1 c2 m1 γ1 hC1 hT hγ hr => oSm ⟨rfl, S_goesInTurn x.toNat hT (c1.i hC).2.2.1 (by omega) (by omega) (fun c3 => b1 ?_) (fun c3 => b0 ?_)⟩))
  · have := hQ m1 γ1 hC1 hr
    rw [ift_f (show ¬ isT a s x from c1)] at this
    exact this
  · have := hQ m1 γ1 hC1 hr
    rw [ift_t ⟨c1, c2⟩, ift_t c3] at this
    exact this
  · have := hQ m1 γ1 hC1 hr
    rw [ift_t ⟨c1, c2⟩, ift_f c3] at this
    exact this
theorem C_passed {s x i : Int} (hC : CI m γ a) (hs : rJ s) (hx : rJ x) (hi : rJ i) (hQ : ∀ m1 γ1, CI m1 γ1 a → rsame m m1 → Q (v_passed a s x i) m1 γ1 t) : TI E (k + 6) 148 [.ref 0, .int (iI s), .int (iI x), .int (iI i)] m γ t Q := by
  unfold v_passed at hQ
  refine vc_X8_passed hs hx hi (S_traceOfStrand hC hs hx (fun c1 m1 γ1 hC1 hr => oN ?_) (fun c1 c2 m1 γ1 hC1 hT hγ hr => oSm ⟨rfl, fun c3 => ?_, fun c3 => ?_⟩))
  · have := hQ m1 γ1 hC1 hr
    rw [ift_f (fun h => c1 h.1)] at this
    exact this
  · have := hQ m1 γ1 hC1 hr
    rw [ift_f (fun h => by have := h.2; omega)] at this
    exact this
  · have := hQ m1 γ1 hC1 hr
    rw [ift_t ⟨⟨c1, c2⟩, by omega⟩] at this
    refine S_edgePassed x.toNat hT (c1.i hC).2.2.1 (by omega) (by omega) hi (fun c4 => ?_) (fun c4 => ?_)
    · rw [ift_t c4.2] at this
      exact this
    · rw [ift_f (fun h => c4 ⟨by omega, h⟩)] at this
      exact this
end C4
