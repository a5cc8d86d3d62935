/-! ===== first kink, first cross of two strands: both sides ===== -/
noncomputable def fsQ (P : Nat → Prop) : Nat → Nat → Int
  | _, 0 => -1
  | s, f + 1 => ift (P s) (s : Int) (fsQ P (s + 1) f)
theorem fsQ_t {P : Nat → Prop} {s n : Nat} (hs : s < n) (h : P s) : fsQ P s (n - s) = (s : Int) := by
  rw [show n - s = (n - (s + 1)) + 1 by omega]
  exact ift_t h
theorem fsQ_f {P : Nat → Prop} {s n : Nat} (hs : s < n) (h : ¬ P s) : fsQ P s (n - s) = fsQ P (s + 1) (n - (s + 1)) := by
  rw [show n - s = (n - (s + 1)) + 1 by omega]
  exact ift_f h
/-- the first of them, or -1 -/
noncomputable def fsP (P : Nat → Prop) (n : Nat) : Int := fsQ P 0 n
theorem fsQ_sp {P : Nat → Prop} : ∀ f s, (fsQ P s f = -1 ∧ ∀ e, s ≤ e → e < s + f → ¬ P e) ∨ (∃ e : Nat, s ≤ e ∧ e < s + f ∧ fsQ P s f = (e : Int) ∧ P e ∧ ∀ e', s ≤ e' → e' < e → ¬ P e')
  | 0, s => Or.inl ⟨rfl, fun e h1 h2 => absurd h2 (by omega)⟩
  | f + 1, s => by
    by_cases h : P s
    · exact Or.inr ⟨s, Nat.le_refl _, by omega, ift_t h, h, fun e' h1 h2 => absurd h2 (by omega)⟩
    · have e1 : fsQ P s (f + 1) = fsQ P (s + 1) f := ift_f h
      rw [e1]
      rcases fsQ_sp f (s + 1) with q | q
      · refine Or.inl ⟨q.1, fun e h1 h2 => ?_⟩
        by_cases c : e = s
        · rw [c]; exact h
        · exact q.2 e (by omega) (by omega)
      · obtain ⟨e, q1, q2, q3, q4, q5⟩ := q
        refine Or.inr ⟨e, by omega, by omega, q3, q4, fun e' h1 h2 => ?_⟩
        by_cases c : e' = s
        · rw [c]; exact h
        · exact q5 e' (by omega) h2
def two (G : GV) (e : Nat) : Prop := crX G e ∧ oS G e ≠ uS G e
def apt (G : GV) (e : Nat) : Int := if oP G e ≤ uP G e then uP G e - oP G e else oP G e - uP G e
def knk (G : GV) (e : Nat) : Prop := (crX G e ∧ oS G e = uS G e) ∧ (apt G e = 1 ∨ apt G e = (pn G (oS G e).toNat : Int) - 1)
section KN
variable {E : am_E} {k : Nat} {m : MM} {γ : GM} {t : am_H} {G : GV} {Q : Int → MM → GM → am_H → Prop}
theorem S_firstOfTwo (hT : TrOK m G) (hG : vG G) (hγ : γ 11 = G) (hQ : Q (fsP (two G) (gn G.1 G.2.1)) m γ t) : TI E (k + 2) 125 [.ref 10] m γ t Q := by
  have hgn := gn_le _ hG.1.le.1 _ hG.1.le.2
  refine vc_X7_firstOfTwo ?_
  refine upN (n := gn G.1 G.2.1) (P := fun e => fsQ (two G) e (gn G.1 G.2.1 - e) = fsP (two G) (gn G.1 G.2.1) → hd_X7_firstOfTwo_2 E (k + 1) (e : Int) m γ t Q) ?_ (fun e he ih => ?_) 0 (Nat.zero_le _) rfl
  · intro hq
    refine vc_X7_firstOfTwo_2 (by omega) (S_edges (gi rfl) (fun _ => ?_))
    rw [hγ]
    refine ⟨fun z => absurd z (by omega), fun _ => ?_⟩
    rw [Nat.sub_self] at hq
    rw [← hq] at hQ
    exact hQ
  · intro hq
    refine vc_X7_firstOfTwo_2 (by omega) (S_edges (gi rfl) (fun _ => ?_))
    rw [hγ]
    have hno : ¬ two G e → hd_X7_firstOfTwo_2 E (k + 1) ((e : Int) + 1) m γ t Q := fun h => ih (by rw [← fsQ_f he h]; exact hq)
    refine ⟨fun _ => S_isCrossG e (gi rfl) rfl (by rw [hγ]; exact he) (fun c => b1 ?_) (fun c => b0 ?_), fun z => absurd (by omega) z⟩
    · rw [hγ] at c
      refine S_overStrand e hT hG rfl he (S_underStrand e hT hG rfl he ⟨fun c2 => hno (fun h => h.2 c2), fun c2 => ?_⟩)
      rw [fsQ_t he (show two G e from ⟨c, c2⟩)] at hq
      rw [← hq] at hQ
      exact hQ
    · rw [hγ] at c
      exact hno (fun h => c h.1)
theorem S_isKinkC {z : Int} (e : Nat) (hT : TrOK m G) (hG : vG G) (hz : z = (e : Int)) (he : e < gn G.1 G.2.1) (q1 : knk G e → Q 1 m γ t) (q0 : ¬ knk G e → Q 0 m γ t) : TI E (k + 3) 127 [.ref 10, .int (iI z)] m γ t Q := by
  have hgn := gn_le _ hG.1.le.1 _ hG.1.le.2
  have hP := nP_le hG
  have hw := own_iff hG he
  subst hz
  refine vc_X7_isKink (by omega) (S_ownerOf e hT hG rfl he ⟨fun c => q0 (fun h => hw.mpr h.1 c), fun c => ?_⟩)
  obtain ⟨c1, c2⟩ := hw.mp c
  have ho : own G e = oS G e := by unfold own; rw [if_pos c2]
  have hr := oP_rg hG he
  have e25 := (hT.2.2.2.1 e he).1
  have e26 := (hT.2.2.2.1 e he).2
  obtain ⟨y, hy, -, -, -, h4, -⟩ := xo hG he c1
  have hs := pas_strand hG hy
  refine S_at 24 rfl rfl rfl (by decide) (by omega) (fun _ => S_at 24 rfl rfl rfl (by decide) (by omega) (fun _ => ?_))
  rw [atn_in (by omega), atn_in (by omega), e25, e26]
  have hpn : pn G (oS G e).toNat ≤ 48 := by
    have := cp_le (G := G) (bg G ((oS G e).toNat + 1))
    unfold pn
    omega
  have tail : ∀ v : Int, v = apt G e → ((v = 1 → Q 1 m γ t) ∧ (¬ v = 1 → TI E (k + 2) 107 [.ref 10, .int (iI (own G e))] m γ t (fun v7 m7 γ7 t7 => rJ (v7 - 1) ∧ ((v = v7 - 1 → Q 1 m7 γ7 t7) ∧ (¬ v = v7 - 1 → Q 0 m7 γ7 t7))))) := by
    intro v hv
    refine ⟨fun c3 => q1 ⟨⟨c1, c2⟩, Or.inl (by omega)⟩, fun c3 => S_passesOn (oS G e).toNat hT hG (by rw [ho]; omega) (by omega) ⟨by omega, fun c4 => q1 ⟨⟨c1, c2⟩, Or.inr (by omega)⟩, fun c4 => q0 (fun h => ?_)⟩⟩
    rcases h.2 with q | q
    · exact c3 (by omega)
    · exact c4 (by omega)
  refine vc_J9_abs_0f7a4 (by omega) ⟨fun c3 => ⟨by omega, tail _ ?_⟩, fun c3 => tail _ ?_⟩
  · unfold apt
    rw [if_pos (by omega)]
    omega
  · unfold apt
    split <;> omega
theorem S_firstKinkC (hT : TrOK m G) (hG : vG G) (hγ : γ 11 = G) (hQ : Q (fsP (knk G) (gn G.1 G.2.1)) m γ t) : TI E (k + 4) 126 [.ref 10] m γ t Q := by
  have hgn := gn_le _ hG.1.le.1 _ hG.1.le.2
  refine vc_X7_firstKink ?_
  refine upN (n := gn G.1 G.2.1) (P := fun e => fsQ (knk G) e (gn G.1 G.2.1 - e) = fsP (knk G) (gn G.1 G.2.1) → hd_X7_firstKink_2 E (k + 3) (e : Int) m γ t Q) ?_ (fun e he ih => ?_) 0 (Nat.zero_le _) rfl
  · intro hq
    refine vc_X7_firstKink_2 (by omega) (S_edges (gi rfl) (fun _ => ?_))
    rw [hγ]
    refine ⟨fun z => absurd z (by omega), fun _ => ?_⟩
    rw [Nat.sub_self] at hq
    rw [← hq] at hQ
    exact hQ
  · intro hq
    refine vc_X7_firstKink_2 (by omega) (S_edges (gi rfl) (fun _ => ?_))
    rw [hγ]
    refine ⟨fun _ => S_isKinkC e hT hG rfl he (fun c => b1 ?_) (fun c => b0 (ih (by rw [← fsQ_f he c]; exact hq))), fun z => absurd (by omega) z⟩
    rw [fsQ_t he c] at hq
    rw [← hq] at hQ
    exact hQ
theorem S_isKinkR {z : Int} (e : Nat) (hG : RG m G) (hP : RP m G) (hz : z = (e : Int)) (he : e < gn G.1 G.2.1) (q1 : knk G e → Q 1 m γ t) (q0 : ¬ knk G e → Q 0 m γ t) : TI E (k + 2) 286 [.ref 158, .int (iI z)] m γ t Q := by
  have hle := hG.le
  have hv := hG.2.2.1
  have hP48 := nP_le hv
  subst hz
  refine vc_X9_isKink (by omega) (S_isOwn e hG hP rfl he (fun c => b1 ?_) (fun c => b0 (q0 (fun h => c h.1))))
  have hr := oP_rg hv he
  have hpn : pn G (oS G e).toNat ≤ 48 := by
    have := cp_le (G := G) (bg G ((oS G e).toNat + 1))
    unfold pn
    omega
  obtain ⟨y, hy, -, -, -, h4, -⟩ := xo hv he c.1
  refine S_lastPass e hG hP rfl he c.1 (S_firstPass e hG hP rfl he c.1 ?_)
  have ha : (if oP G e ≤ uP G e then uP G e else oP G e) - (if oP G e ≤ uP G e then oP G e else uP G e) = apt G e := by
    unfold apt
    split <;> rfl
  have hab : -100 ≤ apt G e ∧ apt G e ≤ 100 := by
    unfold apt
    split <;> omega
  rw [ha]
  refine ⟨by omega, fun c3 => q1 ⟨c, Or.inl c3⟩, fun c3 => ⟨by omega, ?_⟩⟩
  rw [Int.toNat_natCast, (hP.1 e he c.1).1]
  refine S_passings (oS G e).toNat hv hP (by omega) (by omega) ⟨by omega, fun c4 => q1 ⟨c, Or.inr c4⟩, fun c4 => q0 (fun h => ?_)⟩
  rcases h.2 with q | q
  · exact c3 q
  · exact c4 q
theorem S_firstKinkR (hG : RG m G) (hP : RP m G) (hQ : Q (fsP (knk G) (gn G.1 G.2.1)) m γ t) : TI E (k + 3) 287 [.ref 158] m γ t Q := by
  have hle := hG.le
  have h6 := hG.1.2.2.1
  refine vc_X9_firstKink ?_
  refine upN (n := gn G.1 G.2.1) (P := fun e => fsQ (knk G) e (gn G.1 G.2.1 - e) = fsP (knk G) (gn G.1 G.2.1) → hd_X9_firstKink_2 E (k + 2) (e : Int) m γ t Q) ?_ (fun e he ih => ?_) 0 (Nat.zero_le _) rfl
  · intro hq
    refine vc_X9_firstKink_2 (by omega) ⟨fun z => absurd z (by omega), fun _ => ?_⟩
    rw [Nat.sub_self] at hq
    rw [← hq] at hQ
    exact hQ
  · intro hq
    refine vc_X9_firstKink_2 (by omega) ⟨fun _ => S_isKinkR e hG hP rfl he (fun c => b1 ?_) (fun c => b0 (ih (by rw [← fsQ_f he c]; exact hq))), fun z => absurd (by omega) z⟩
    rw [fsQ_t he c] at hq
    rw [← hq] at hQ
    exact hQ
end KN
