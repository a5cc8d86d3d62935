/-! ===== the reference: passings ===== -/
def pasR (m : MM) (s e n : Nat) (x y : Int) (o : Bool) : MM :=
  if o then up (up (up (up (up (up m 171 (up (m 171) e (s : Int))) 173 (up (m 173) e (n : Int))) 175 (up (m 175) e x)) 176 (up (m 176) e y)) 179 (up (m 179) n (e : Int))) 180 (up (m 180) n 1)
  else up (up (up (up (up (up m 172 (up (m 172) e (s : Int))) 174 (up (m 174) e (n : Int))) 177 (up (m 177) e x)) 178 (up (m 178) e y)) 179 (up (m 179) n (e : Int))) 180 (up (m 180) n 0)
abbrev LPs : List Nat := [171, 172, 173, 174, 175, 176, 177, 178, 179, 180]
theorem pasR_fr (m : MM) (s e n : Nat) (x y : Int) (o : Bool) : fr LPs [] m (pasR m s e n x y o) := by
  unfold pasR
  cases o
  · exact (((((fr.refl.upa 172 (by decide) (by decide)).upa 174 (by decide) (by decide)).upa 177 (by decide) (by decide)).upa 178 (by decide) (by decide)).upa 179 (by decide) (by decide)).upa 180 (by decide) (by decide)
  · exact (((((fr.refl.upa 171 (by decide) (by decide)).upa 173 (by decide) (by decide)).upa 175 (by decide) (by decide)).upa 176 (by decide) (by decide)).upa 179 (by decide) (by decide)).upa 180 (by decide) (by decide)
abbrev PA : Type := List (Nat × Nat × Nat × Bool)
/-- the reference's rows after the passings P -/
def RPm (G : GV) (m0 m : MM) (P : PA) : Prop :=
  (m 171 = fu (fun y => pE G y.2.2) (fun y => (y.2.1 : Int)) (m0 171) (P.filter (fun y => pO G y.2.2)) ∧ m 173 = fu (fun y => pE G y.2.2) (fun y => (y.1 : Int)) (m0 173) (P.filter (fun y => pO G y.2.2)) ∧ m 175 = fu (fun y => pE G y.2.2) (fun y => dX y.2.2.1 y.2.2.2) (m0 175) (P.filter (fun y => pO G y.2.2)) ∧ m 176 = fu (fun y => pE G y.2.2) (fun y => dY y.2.2.1 y.2.2.2) (m0 176) (P.filter (fun y => pO G y.2.2))) ∧
  (m 172 = fu (fun y => pE G y.2.2) (fun y => (y.2.1 : Int)) (m0 172) (P.filter (fun y => !pO G y.2.2)) ∧ m 174 = fu (fun y => pE G y.2.2) (fun y => (y.1 : Int)) (m0 174) (P.filter (fun y => !pO G y.2.2)) ∧ m 177 = fu (fun y => pE G y.2.2) (fun y => dX y.2.2.1 y.2.2.2) (m0 177) (P.filter (fun y => !pO G y.2.2)) ∧ m 178 = fu (fun y => pE G y.2.2) (fun y => dY y.2.2.1 y.2.2.2) (m0 178) (P.filter (fun y => !pO G y.2.2))) ∧
  m 179 = lsF (fun y => (pE G y.2.2 : Int)) P (m0 179) ∧ m 180 = lsF (fun y => bb (pO G y.2.2)) P (m0 180)
theorem RPm_snoc {G : GV} {m0 m : MM} {P : PA} (h : RPm G m0 m P) {s n c : Nat} {b : Bool} (hn : n = P.length) : RPm G m0 (pasR m s (pE G (c, b)) n (dX c b) (dY c b) (pO G (c, b))) (P ++ [(n, s, c, b)]) := by
  subst hn
  obtain ⟨⟨a1, a2, a3, a4⟩, ⟨b1, b2, b3, b4⟩, c1, c2⟩ := h
  unfold pasR
  cases ho : pO G (c, b) with
  | true =>
    have f1 : List.filter (fun y : Nat × Nat × Nat × Bool => pO G y.2.2) [(P.length, s, c, b)] = [(P.length, s, c, b)] := by simp [ho]
    have f2 : List.filter (fun y : Nat × Nat × Nat × Bool => !pO G y.2.2) [(P.length, s, c, b)] = [] := by simp [ho]
    unfold RPm
    rw [List.filter_append, List.filter_append, f1, f2, List.append_nil, fu_app, fu_app, fu_app, fu_app, lsF_app, lsF_app]
    refine ⟨⟨?_, ?_, ?_, ?_⟩, ⟨b1, b2, b3, b4⟩, ?_, ?_⟩
    · show up (m 171) _ _ = _
      rw [← a1]
    · show up (m 173) _ _ = _
      rw [← a2]
    · show up (m 175) _ _ = _
      rw [← a3]
    · show up (m 176) _ _ = _
      rw [← a4]
    · show up (m 179) _ _ = _
      rw [← c1]
    · show up (m 180) _ _ = _
      rw [← c2]
      simp only [ho]
      rfl
  | false =>
    have f1 : List.filter (fun y : Nat × Nat × Nat × Bool => pO G y.2.2) [(P.length, s, c, b)] = [] := by simp [ho]
    have f2 : List.filter (fun y : Nat × Nat × Nat × Bool => !pO G y.2.2) [(P.length, s, c, b)] = [(P.length, s, c, b)] := by simp [ho]
    unfold RPm
    rw [List.filter_append, List.filter_append, f1, f2, List.append_nil, fu_app, fu_app, fu_app, fu_app, lsF_app, lsF_app]
    refine ⟨⟨a1, a2, a3, a4⟩, ⟨?_, ?_, ?_, ?_⟩, ?_, ?_⟩
    · show up (m 172) _ _ = _
      rw [← b1]
    · show up (m 174) _ _ = _
      rw [← b2]
    · show up (m 177) _ _ = _
      rw [← b3]
    · show up (m 178) _ _ = _
      rw [← b4]
    · show up (m 179) _ _ = _
      rw [← c1]
    · show up (m 180) _ _ = _
      rw [← c2]
      simp only [ho]
      rfl
/-- which way a line goes over an edge -/
def pas_P (R C c : Nat) (b : Bool) : Bool := decide (exe R C c b = -1) || (
  if gbel R C (exe R C c b).toNat = 0 then
    (if c / 4 = gcell R C (exe R C c b).toNat then (if c % 4 = 0 then decide (dX c b = 1 ∧ dY c b = 1) else decide (dX c b = 1 ∧ dY c b = -1)) else (if c % 4 = 2 then decide (dX c b = -1 ∧ dY c b = -1) else decide (dX c b = -1 ∧ dY c b = 1)))
  else
    (if c / 4 = gcell R C (exe R C c b).toNat then (if c % 4 = 2 then decide (dX c b = 1 ∧ dY c b = 1) else decide (dX c b = -1 ∧ dY c b = 1)) else (if c % 4 = 0 then decide (dX c b = -1 ∧ dY c b = -1) else decide (dX c b = 1 ∧ dY c b = -1))))
theorem pas_D : ∀ R, R ≤ 4 → ∀ C, C ≤ 4 → ∀ c, c < 4 * (R * C) → pas_P R C c true = true ∧ pas_P R C c false = true := by decide +kernel
section R4
variable {E : am_E} {k : Nat} {m : MM} {γ : GM} {t : am_H}
theorem passes_152 {Q : Int → MM → GM → am_H → Prop} {G : GV} {c s n : Nat} {b : Bool} {x1 x2 x3 x4 y7 y8 y9 : Int} (hx1 : rJ x1) (hx2 : rJ x2) (hx3 : rJ x3) (hx4 : rJ x4) (h : RG m G) (hc : c < nC G) (hi : isC G (c, b) = true) (hs : s ≤ 64) (hn : n < 48) (h8 : y8 = dX c b) (h9 : y9 = dY c b) (h7 : y7 = if dX c b = dY c b then 1 else 0)
    (hQ : Q ((n : Int) + 1) (pasR m s (pE G (c, b)) n (dX c b) (dY c b) (pO G (c, b))) γ t) : hd_X9_passes_152 E k x1 x2 x3 x4 (exe G.1 G.2.1 c b) (s : Int) (n : Int) y7 y8 y9 m γ t Q := by
  have hle := h.le
  have her := exe_rng h.2.2.1 (x := (c, b)) hc
  obtain ⟨e1, e2⟩ := isC_ed hi
  simp only at her e1 e2
  have hd : -2 ≤ dX c b ∧ dX c b ≤ 2 ∧ -2 ≤ dY c b ∧ dY c b ≤ 2 := by
    have q1 : ∀ z, -1 ≤ sdX z ∧ sdX z ≤ 1 := fun z => by unfold sdX; split; omega; split <;> omega
    have q2 : ∀ z, -1 ≤ sdY z ∧ sdY z ≤ 1 := fun z => by unfold sdY; split; omega; split <;> omega
    unfold dX dY
    have a1 := q1 (exs c b)
    have a2 := q1 (exs c (!b))
    have a3 := q2 (exs c b)
    have a4 := q2 (exs c (!b))
    omega
  obtain ⟨gc, gb⟩ := h.1.2.2.2.1 (exe G.1 G.2.1 c b).toNat (by omega)
  have hw := h.2.1 (exe G.1 G.2.1 c b).toNat (by omega)
  have hk : exk G (c, b) = 0 ∨ exk G (c, b) = 1 := by unfold isC at hi; exact of_decide_eq_true hi
  have hO : pO G (c, b) = ((decide (dX c b = dY c b) == decide (gbel G.1 G.2.1 (exe G.1 G.2.1 c b).toNat = 0)) != decide (exk G (c, b) = 1)) := rfl
  have hE : pE G (c, b) = (exe G.1 G.2.1 c b).toNat := rfl
  have hov : pO G (c, b) = true → Q ((n : Int) + 1) (up (up (up (up (up (up m 171 (up (m 171) ((exe G.1 G.2.1 c b).toNat) (s : Int))) 173 (up (m 173) ((exe G.1 G.2.1 c b).toNat) (n : Int))) 175 (up (m 175) ((exe G.1 G.2.1 c b).toNat) y8)) 176 (up (m 176) ((exe G.1 G.2.1 c b).toNat) y9)) 179 (up (m 179) ((n : Int).toNat) (exe G.1 G.2.1 c b))) 180 (up (m 180) ((n : Int).toNat) 1)) γ t := by
    intro ho
    rw [ho, hE] at hQ
    unfold pasR at hQ
    rw [if_pos rfl, show (((exe G.1 G.2.1 c b).toNat : Nat) : Int) = exe G.1 G.2.1 c b by omega] at hQ
    rw [h8, h9, Int.toNat_natCast]
    exact hQ
  have hun : pO G (c, b) = false → Q ((n : Int) + 1) (up (up (up (up (up (up m 172 (up (m 172) ((exe G.1 G.2.1 c b).toNat) (s : Int))) 174 (up (m 174) ((exe G.1 G.2.1 c b).toNat) (n : Int))) 177 (up (m 177) ((exe G.1 G.2.1 c b).toNat) y8)) 178 (up (m 178) ((exe G.1 G.2.1 c b).toNat) y9)) 179 (up (m 179) ((n : Int).toNat) (exe G.1 G.2.1 c b))) 180 (up (m 180) ((n : Int).toNat) 0)) γ t := by
    intro ho
    rw [ho, hE] at hQ
    unfold pasR at hQ
    rw [if_neg (by decide), show (((exe G.1 G.2.1 c b).toNat : Nat) : Int) = exe G.1 G.2.1 c b by omega] at hQ
    rw [h8, h9, Int.toNat_natCast]
    exact hQ
  have r7 : rJ y7 := by rw [h7]; split <;> omega
  refine vc_X9_passes_152 hx1 hx2 hx3 hx4 (by omega) (by omega) (by omega) r7 (by omega) (by omega) ?_
  unfold W_X9_passes_152
  rw [gb, hw, ← e2]
  by_cases p1 : gbel G.1 G.2.1 (exe G.1 G.2.1 c b).toNat = 0
  · by_cases p2 : exk G (c, b) = 1
    · by_cases p3 : dX c b = dY c b
      · have ho : pO G (c, b) = false := by rw [hO]; simp [p1, p2, p3]
        rw [if_pos p3] at h7
        refine ⟨by omega, fun c1 => ⟨by omega, fun c2 => absurd c2 (by omega), fun c2 => ⟨fun c3 => absurd c3 (by omega), fun c3 => ⟨by omega, by omega, by omega, by omega, by omega, by omega, by omega, hun ho⟩⟩⟩, fun c1 => absurd c1 (by omega)⟩
      · have ho : pO G (c, b) = true := by rw [hO]; simp [p1, p2, p3]
        rw [if_neg p3] at h7
        refine ⟨by omega, fun c1 => ⟨by omega, fun c2 => absurd c2 (by omega), fun c2 => ⟨fun c3 => ⟨by omega, by omega, by omega, by omega, by omega, by omega, by omega, hov ho⟩, fun c3 => absurd h7 c3⟩⟩, fun c1 => absurd c1 (by omega)⟩
    · by_cases p3 : dX c b = dY c b
      · have ho : pO G (c, b) = true := by rw [hO]; simp [p1, p2, p3]
        rw [if_pos p3] at h7
        refine ⟨by omega, fun c1 => ⟨by omega, fun c2 => ⟨fun c3 => ⟨by omega, by omega, by omega, by omega, by omega, by omega, by omega, hov ho⟩, fun c3 => absurd h7 c3⟩, fun c2 => absurd c2 (by omega)⟩, fun c1 => absurd c1 (by omega)⟩
      · have ho : pO G (c, b) = false := by rw [hO]; simp [p1, p2, p3]
        rw [if_neg p3] at h7
        refine ⟨by omega, fun c1 => ⟨by omega, fun c2 => ⟨fun c3 => absurd c3 (by omega), fun c3 => ⟨by omega, by omega, by omega, by omega, by omega, by omega, by omega, hun ho⟩⟩, fun c2 => absurd c2 (by omega)⟩, fun c1 => absurd c1 (by omega)⟩
  · by_cases p2 : exk G (c, b) = 1
    · by_cases p3 : dX c b = dY c b
      · have ho : pO G (c, b) = true := by rw [hO]; simp [p1, p2, p3]
        rw [if_pos p3] at h7
        refine ⟨by omega, fun c1 => absurd c1 (by omega), fun c1 => ⟨fun c2 => absurd c2 (by omega), fun c2 => ⟨by omega, fun c3 => absurd c3 (by omega), fun c3 => ?_⟩⟩⟩
        exact ⟨by omega, by omega, by omega, by omega, by omega, by omega, by omega, hov ho⟩
      · have ho : pO G (c, b) = false := by rw [hO]; simp [p1, p2, p3]
        rw [if_neg p3] at h7
        refine ⟨by omega, fun c1 => absurd c1 (by omega), fun c1 => ⟨fun c2 => ⟨by omega, fun c3 => absurd c3 (by omega), fun c3 => ?_⟩, fun c2 => absurd h7 c2⟩⟩
        exact ⟨by omega, by omega, by omega, by omega, by omega, by omega, by omega, hun ho⟩
    · by_cases p3 : dX c b = dY c b
      · have ho : pO G (c, b) = false := by rw [hO]; simp [p1, p2, p3]
        rw [if_pos p3] at h7
        refine ⟨by omega, fun c1 => absurd c1 (by omega), fun c1 => ⟨fun c2 => absurd c2 (by omega), fun c2 => ⟨by omega, fun c3 => ?_, fun c3 => absurd c3 (by omega)⟩⟩⟩
        exact ⟨by omega, by omega, by omega, by omega, by omega, by omega, by omega, hun ho⟩
      · have ho : pO G (c, b) = true := by rw [hO]; simp [p1, p2, p3]
        rw [if_neg p3] at h7
        refine ⟨by omega, fun c1 => absurd c1 (by omega), fun c1 => ⟨fun c2 => ⟨by omega, fun c3 => ?_, fun c3 => absurd c3 (by omega)⟩, fun c2 => absurd h7 c2⟩⟩
        exact ⟨by omega, by omega, by omega, by omega, by omega, by omega, by omega, hov ho⟩
theorem S_passes {Q : Int → MM → GM → am_H → Prop} {G : GV} {c s n : Nat} {b : Bool} {z1 z2 : Int} (e1 : z1 = (c : Int)) (e2 : z2 = exe G.1 G.2.1 c b) (h : RG m G) (hc : c < nC G) (hi : isC G (c, b) = true) (hs : s ≤ 64) (hn : n < 48)
    (hQ : Q ((n : Int) + 1) (pasR m s (pE G (c, b)) n (dX c b) (dY c b) (pO G (c, b))) γ t) : TI E k 213 [.ref 158, .int (iI z1), .int (iI z2), .int (iI (s : Int)), .int (iI (n : Int))] m γ t Q := by
  have hle := h.le
  have her := exe_rng h.2.2.1 (x := (c, b)) hc
  have hne := (isC_ed hi).1
  simp only at her hne
  subst e1 e2
  have hcc : c < 4 * (G.1 * G.2.1) := hc
  have hRC : G.1 * G.2.1 ≤ 16 := Nat.mul_le_mul hle.1 hle.2.1
  obtain ⟨gc, gb⟩ := h.1.2.2.2.1 (exe G.1 G.2.1 c b).toNat (by omega)
  have key : ∀ y7 y8 y9 : Int, y8 = dX c b → y9 = dY c b → y7 = (if dX c b = dY c b then 1 else 0) → hd_X9_passes_152 E k (c : Int) (exe G.1 G.2.1 c b) (s : Int) (n : Int) (exe G.1 G.2.1 c b) (s : Int) (n : Int) y7 y8 y9 m γ t Q := fun y7 y8 y9 h8 h9 h7 => passes_152 (by omega) (by omega) (by omega) (by omega) h hc hi hs hn h8 h9 h7 hQ
  have hP : pas_P G.1 G.2.1 c b = true := by
    have := pas_D _ hle.1 _ hle.2.1 c hcc
    cases b
    · exact this.2
    · exact this.1
  unfold pas_P at hP
  rw [decide_eq_false hne, Bool.false_or] at hP
  refine vc_X9_passes (by omega) (by omega) (by omega) (by omega) ?_
  unfold W_X9_passes
  rw [gc, gb]
  refine ⟨by omega, by omega, fun c1 => ⟨by omega, by omega, fun c2 => ⟨fun c3 => ?_, fun c3 => ?_⟩, fun c2 => ⟨fun c3 => ?_, fun c3 => ?_⟩⟩, fun c1 => ⟨by omega, by omega, fun c2 => ⟨fun c3 => ?_, fun c3 => ?_⟩, fun c2 => ⟨fun c3 => ?_, fun c3 => ?_⟩⟩⟩
  · rw [if_pos (by omega), if_pos (by omega), if_pos (by omega)] at hP
    have hP := of_decide_eq_true hP
    exact key _ _ _ hP.1.symm hP.2.symm (by rw [hP.1, hP.2]; rfl)
  · rw [if_pos (by omega), if_pos (by omega), if_neg (by omega)] at hP
    have hP := of_decide_eq_true hP
    exact key _ _ _ hP.1.symm hP.2.symm (by rw [hP.1, hP.2]; rfl)
  · rw [if_neg (by omega), if_pos (by omega), if_pos (by omega)] at hP
    have hP := of_decide_eq_true hP
    exact key _ _ _ hP.1.symm hP.2.symm (by rw [hP.1, hP.2]; rfl)
  · rw [if_neg (by omega), if_pos (by omega), if_neg (by omega)] at hP
    have hP := of_decide_eq_true hP
    exact key _ _ _ hP.1.symm hP.2.symm (by rw [hP.1, hP.2]; rfl)
  · rw [if_pos (by omega), if_neg (by omega), if_pos (by omega)] at hP
    have hP := of_decide_eq_true hP
    exact key _ _ _ hP.1.symm hP.2.symm (by rw [hP.1, hP.2]; rfl)
  · rw [if_pos (by omega), if_neg (by omega), if_neg (by omega)] at hP
    have hP := of_decide_eq_true hP
    exact key _ _ _ hP.1.symm (by rw [hP.2]; rfl) (by rw [hP.1, hP.2]; rfl)
  · rw [if_neg (by omega), if_neg (by omega), if_pos (by omega)] at hP
    have hP := of_decide_eq_true hP
    exact key _ _ _ hP.1.symm hP.2.symm (by rw [hP.1, hP.2]; rfl)
  · rw [if_neg (by omega), if_neg (by omega), if_neg (by omega)] at hP
    have hP := of_decide_eq_true hP
    exact key _ _ _ (by rw [hP.1]; rfl) hP.2.symm (by rw [hP.1, hP.2]; rfl)
end R4
