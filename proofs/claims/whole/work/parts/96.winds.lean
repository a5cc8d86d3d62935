/-! ===== winds ===== -/
def oCy (G : GV) (A : AS) : Prop := ∀ s, s < A.2.2.1.length → ∃ c0, c0 < nC G ∧ bi A (s + 1) = bi A s + len G c0 ∧ ∀ i, i < len G c0 → A.1[bi A s + i]? = some (s, i, nxi G i (c0, true))
theorem fol_cy {G : GV} {A : AS} (h : oCy G A) (h3 : ∀ s, s < A.2.2.1.length → bi A (s + 1) ≤ A.1.length) {c : Nat} (hc : c < nC G) : oCy G (fol G A c) := by
  have e1 : (fol G A c).1 = A.1 ++ (List.range (len G c)).map (fun j => (A.2.2.1.length, j, nxi G j (c, true))) := by
    unfold fol
    rw [(inn_l G (stt A) c _).1]
    simp [stt]
  have e2 : (fol G A c).2.2 = (A.2.2.1 ++ [A.1.length], A.2.2.2 ++ [A.2.1.length]) := by
    unfold fol
    rw [(inn_l G (stt A) c _).2]
    rfl
  have hlen : (fol G A c).1.length = A.1.length + len G c := by rw [e1]; simp
  have hb : beL (fol G A c) = beL A ++ [A.1.length + len G c] := by
    unfold beL
    rw [e2, hlen]
  have hbl : (beL A).length = A.2.2.1.length + 1 := by unfold beL; simp
  have b1 : ∀ s, s ≤ A.2.2.1.length → bi (fol G A c) s = bi A s := by
    intro s hs
    unfold bi
    rw [hb, List.getD_eq_getElem?_getD, List.getD_eq_getElem?_getD, List.getElem?_append_left (by omega)]
  have b2 : bi (fol G A c) (A.2.2.1.length + 1) = A.1.length + len G c := by
    unfold bi
    rw [hb, List.getD_eq_getElem?_getD, List.getElem?_append_right (by omega), hbl, Nat.sub_self]
    rfl
  intro s hs
  rw [e2] at hs
  simp only [List.length_append, List.length_singleton] at hs
  rcases Nat.lt_or_ge s A.2.2.1.length with hs1 | hs1
  · obtain ⟨c0, q1, q2, q3⟩ := h s hs1
    have q4 := h3 s hs1
    refine ⟨c0, q1, by rw [b1 s (by omega), b1 (s + 1) (by omega)]; exact q2, fun i hi => ?_⟩
    rw [b1 s (by omega), e1, List.getElem?_append_left (by omega)]
    exact q3 i hi
  · have hs2 : s = A.2.2.1.length := by omega
    subst hs2
    refine ⟨c, hc, by rw [b1 _ (Nat.le_refl _), b2, bi_last], fun i hi => ?_⟩
    rw [b1 _ (Nat.le_refl _), bi_last, e1, List.getElem?_append_right (by omega), List.getElem?_map, show A.1.length + i - A.1.length = i by omega, List.getElem?_range hi]
    rfl
theorem bi_le {G : GV} {A : AS} (h : oInv G A) : ∀ s, s < A.2.2.1.length → bi A (s + 1) ≤ A.1.length := by
  intro s hs
  rcases Nat.lt_or_ge (s + 1) A.2.2.1.length with h1 | h1
  · have : bi A (s + 1) = A.2.2.1[s + 1] := by
      unfold bi beL
      rw [List.getD_eq_getElem?_getD, List.getElem?_append_left h1, List.getElem?_eq_getElem h1]
      rfl
    rw [this]
    exact h.2.2.2 _ (List.getElem_mem h1)
  · rw [show s + 1 = A.2.2.1.length by omega, bi_last]
    exact Nat.le_refl _
theorem out_cy {G : GV} (hG : vG G) : ∀ c, c ≤ nC G → oCy G (out G c)
  | 0, _ => fun s hs => absurd hs (Nat.not_lt_zero s)
  | c + 1, hc => by
    show oCy G (if visb (out G c) c then out G c else fol G (out G c) c)
    split
    · exact out_cy hG c (by omega)
    · exact fol_cy (out_cy hG c (by omega)) (bi_le (out_inv hG c (by omega))) (by omega)
/-- a strand comes round -/
theorem str_cyc {G : GV} (hG : vG G) {s : Nat} (hs : s < nS G) : ∃ c0, c0 < nC G ∧ ln G s = len G c0 ∧ ∀ i, i < ln G s → (aG G).1[bg G s + i]? = some (s, i, nxi G i (c0, true)) := by
  obtain ⟨c0, h1, h2, h3⟩ := out_cy hG (nC G) (Nat.le_refl _) s hs
  have h2 : bg G (s + 1) = bg G s + len G c0 := h2
  refine ⟨c0, h1, by unfold ln; omega, fun i hi => h3 i (by unfold ln at hi; omega)⟩
/-- the middle of a side -/
def pX (C c s : Nat) : Int := 2 * ((c % C : Nat) : Int) + 1 + (if s = 1 then 1 else if s = 3 then -1 else 0)
def pY (C c s : Nat) : Int := 2 * ((c / C : Nat) : Int) + 1 + (if s = 2 then 1 else if s = 0 then -1 else 0)
def nxp_P (R C c : Nat) (b : Bool) (z : Nat) : Bool := (decide (exe R C c b = -1) && !decide (z = 2)) || (decide (pX C (c / 4) (exs c b) = pX C ((nxk R C (z : Nat) c b).1 / 4) (exs (nxk R C (z : Nat) c b).1 (!(nxk R C (z : Nat) c b).2))) && decide (pY C (c / 4) (exs c b) = pY C ((nxk R C (z : Nat) c b).1 / 4) (exs (nxk R C (z : Nat) c b).1 (!(nxk R C (z : Nat) c b).2))))
theorem nxp_D : ∀ R, R ≤ 4 → ∀ C, C ≤ 4 → ∀ c, c < 4 * (R * C) → ∀ z, z < 4 → nxp_P R C c true z = true ∧ nxp_P R C c false z = true := by decide +kernel
/-- where one corner ends the next one begins -/
theorem nx_pt {G : GV} (hG : vG G) {x : Nat × Bool} (hx : x.1 < nC G) : pX G.2.1 (x.1 / 4) (exs x.1 x.2) = pX G.2.1 ((nx G x).1 / 4) (exs (nx G x).1 (!(nx G x).2)) ∧ pY G.2.1 (x.1 / 4) (exs x.1 x.2) = pY G.2.1 ((nx G x).1 / 4) (exs (nx G x).1 (!(nx G x).2)) := by
  have hk := exk_rng hG hx
  have hle := hG.1.le
  obtain ⟨c, b⟩ := x
  have hP : nxp_P G.1 G.2.1 c b (exk G (c, b)).toNat = true := by
    have := nxp_D _ hle.1 _ hle.2 c hx (exk G (c, b)).toNat (by omega)
    cases b
    · exact this.2
    · exact this.1
  unfold nxp_P at hP
  have ez : (((exk G (c, b)).toNat : Nat) : Int) = exk G (c, b) := by omega
  have e1 : nxk G.1 G.2.1 ((exk G (c, b)).toNat : Nat) c b = nx G (c, b) := by
    unfold nx
    rw [ez]
  rw [e1] at hP
  rw [Bool.or_eq_true, Bool.and_eq_true, Bool.and_eq_true, decide_eq_true_eq, decide_eq_true_eq, decide_eq_true_eq] at hP
  rcases hP with hP | hP
  · exfalso
    have h2 : exk G (c, b) = 2 := by unfold exk; exact if_pos hP.1
    rw [h2] at hP
    simp at hP
  · exact hP
def gpt (x y px py : Int) : Int := if py = y ∧ x < px then 1 else 0
/-- what the class counts at a corner, what the reference does -/
def wC (r0 c0 r c k : Int) (e : Int) : Int := if r = r0 then (if k = 0 ∧ ¬ c < c0 then e else 0) - (if k = 3 ∧ ¬ c ≤ c0 then e else 0) else 0
def wR (x y x1 y1 x2 y2 : Int) : Int := (if y1 ≤ y ∧ ¬ y2 ≤ y ∧ ¬ (x2 - x1) * (y - y1) - (x - x1) * (y2 - y1) ≤ 0 then 1 else 0) - (if ¬ y1 ≤ y ∧ y2 ≤ y ∧ (x2 - x1) * (y - y1) - (x - x1) * (y2 - y1) < 0 then 1 else 0)
theorem wCR (r0 c0 r c : Int) (k : Nat) (hk : k < 4) (b : Bool) : wC r0 c0 r c (k : Int) (pm b) - wR (2 * c0 + 1) (2 * r0 + 1) (2 * c + 1 + (if exs k (!b) = 1 then 1 else if exs k (!b) = 3 then -1 else 0)) (2 * r + 1 + (if exs k (!b) = 2 then 1 else if exs k (!b) = 0 then -1 else 0)) (2 * c + 1 + (if exs k b = 1 then 1 else if exs k b = 3 then -1 else 0)) (2 * r + 1 + (if exs k b = 2 then 1 else if exs k b = 0 then -1 else 0)) = gpt (2 * c0 + 1) (2 * r0 + 1) (2 * c + 1 + (if exs k b = 1 then 1 else if exs k b = 3 then -1 else 0)) (2 * r + 1 + (if exs k b = 2 then 1 else if exs k b = 0 then -1 else 0)) - gpt (2 * c0 + 1) (2 * r0 + 1) (2 * c + 1 + (if exs k (!b) = 1 then 1 else if exs k (!b) = 3 then -1 else 0)) (2 * r + 1 + (if exs k (!b) = 2 then 1 else if exs k (!b) = 0 then -1 else 0)) := by
  have : k = 0 ∨ k = 1 ∨ k = 2 ∨ k = 3 := by omega
  rcases this with rfl | rfl | rfl | rfl <;> cases b <;> simp [exs, wC, wR, gpt, pm] <;> (repeat' split) <;> omega
