/-! ===== beside ===== -/
theorem scat_out {n : Nat} {d s : Nat → Int} {K : Nat → Int} {e : Nat} : ∀ m, (∀ j, j < m → d j ≠ (e : Int)) → scat n d s m K e = K e
  | 0, _ => rfl
  | m + 1, h => by
    rw [scat]
    split
    · rw [up_ne (by have := h m (by omega); omega)]
      exact scat_out m (fun j hj => h j (by omega))
    · exact scat_out m (fun j hj => h j (by omega))
theorem scat_far {n : Nat} {d s : Nat → Int} {K : Nat → Int} {e : Nat} (he : n ≤ e) : ∀ m, scat n d s m K e = K e
  | 0 => rfl
  | m + 1 => by
    rw [scat]
    split
    · rw [up_ne (by omega)]
      exact scat_far he m
    · exact scat_far he m
theorem scat_hit {n : Nat} {d s : Nat → Int} {K : Nat → Int} {e j0 : Nat} (he : e < n) (hd : d j0 = (e : Int)) : ∀ m, j0 < m → (∀ j, j < m → d j = (e : Int) → j = j0) → scat n d s m K e = s j0
  | 0, h, _ => absurd h (Nat.not_lt_zero _)
  | m + 1, h, h2 => by
    rw [scat]
    by_cases hm : m = j0
    · subst hm
      rw [if_pos (by omega), hd, Int.toNat_natCast, up_self]
    · have h3 : d m ≠ (e : Int) := fun q => hm (h2 m (by omega) q)
      have ih := scat_hit (s := s) (K := K) he hd m (by omega) (fun j hj => h2 j (by omega))
      split
      · rw [up_ne (by omega)]
        exact ih
      · exact ih
def bs1 (R C1 C2 e : Nat) : Nat := 2 * (gcell R (C1 + C2) e / (C1 + C2) * C1 + gcell R (C1 + C2) e % (C1 + C2)) + gbel R (C1 + C2) e
def bs2 (R C1 C2 e : Nat) : Nat := 2 * (gcell R (C1 + C2) e / (C1 + C2) * C2 + (gcell R (C1 + C2) e % (C1 + C2) - C1)) + gbel R (C1 + C2) e
def bsE (R C1 C2 : Nat) (k1 k2 : Nat → Int) (h : Int) (e : Nat) : Int :=
  if gbel R (C1 + C2) e = 0 ∧ gcell R (C1 + C2) e % (C1 + C2) + 1 = C1 then h
  else if gcell R (C1 + C2) e % (C1 + C2) < C1 then k1 (geb R C1 (bs1 R C1 C2 e)).toNat
  else k2 (geb R C2 (bs2 R C1 C2 e)).toNat
def gB (G1 G2 : GV) (h : Int) : GV := nrm (G1.1, G1.2.1 + G2.2.1, bsE G1.1 G1.2.1 G2.2.1 G1.2.2 G2.2.2 h)
def pd (R C R2 C2 cl j : Nat) : Int := geb R C (2 * ((gcell R2 C2 j / C2) * C + gcell R2 C2 j % C2 + cl) + gbel R2 C2 j)
def bs_P (R C1 C2 e : Nat) : Bool :=
  decide (gcell R (C1 + C2) e < 16) && decide (gbel R (C1 + C2) e ≤ 1) &&
  (decide (gbel R (C1 + C2) e = 0 ∧ gcell R (C1 + C2) e % (C1 + C2) + 1 = C1) ||
   (if gcell R (C1 + C2) e % (C1 + C2) < C1 then
      decide (bs1 R C1 C2 e < 2 * (R * C1)) && decide (0 ≤ geb R C1 (bs1 R C1 C2 e)) && decide ((geb R C1 (bs1 R C1 C2 e)).toNat < gn R C1) &&
      (List.range (gn R C1)).all (fun j => decide (pd R (C1 + C2) R C1 0 j = (e : Int)) == decide (j = (geb R C1 (bs1 R C1 C2 e)).toNat)) &&
      (List.range (gn R C2)).all (fun j => !decide (pd R (C1 + C2) R C2 C1 j = (e : Int)))
    else
      decide (bs2 R C1 C2 e < 2 * (R * C2)) && decide (0 ≤ geb R C2 (bs2 R C1 C2 e)) && decide ((geb R C2 (bs2 R C1 C2 e)).toNat < gn R C2) &&
      (List.range (gn R C2)).all (fun j => decide (pd R (C1 + C2) R C2 C1 j = (e : Int)) == decide (j = (geb R C2 (bs2 R C1 C2 e)).toNat))))
def bs_A (R C1 C2 : Nat) : Bool := !decide (C1 + C2 ≤ 4 ∧ 1 ≤ C1 ∧ 1 ≤ C2) || (List.range (gn R (C1 + C2))).all (bs_P R C1 C2)
theorem bs_D0 : ∀ R, R ≤ 4 → ∀ C1, C1 ≤ 4 → ∀ C2, C2 ≤ 4 → bs_A R C1 C2 = true := by decide +kernel
def be_P (R C1 C y : Nat) : Bool := decide (0 ≤ geb R C (2 * (y * C + C1 - 1))) && decide ((geb R C (2 * (y * C + C1 - 1))).toNat < gn R C) && decide (y * C + C1 - 1 < R * C) && (List.range (gn R C)).all (fun e => decide (e = (geb R C (2 * (y * C + C1 - 1))).toNat) == decide (gbel R C e = 0 ∧ gcell R C e % C + 1 = C1 ∧ gcell R C e / C = y)) && (List.range (gn R C)).all (fun e => decide (gcell R C e / C < R))
theorem be_D0 : ∀ R, R ≤ 4 → ∀ C, C ≤ 4 → ∀ C1, C1 < C → 1 ≤ C1 → ∀ y, y < R → be_P R C1 C y = true := by decide +kernel
theorem bs_D {R C1 C2 e : Nat} (hR : R ≤ 4) (h4 : C1 + C2 ≤ 4) (h1 : 1 ≤ C1) (h2 : 1 ≤ C2) (he : e < gn R (C1 + C2)) : gcell R (C1 + C2) e < 16 ∧ gbel R (C1 + C2) e ≤ 1 ∧ (¬ (gbel R (C1 + C2) e = 0 ∧ gcell R (C1 + C2) e % (C1 + C2) + 1 = C1) →
    (gcell R (C1 + C2) e % (C1 + C2) < C1 → bs1 R C1 C2 e < 2 * (R * C1) ∧ 0 ≤ geb R C1 (bs1 R C1 C2 e) ∧ (geb R C1 (bs1 R C1 C2 e)).toNat < gn R C1 ∧ (∀ j, j < gn R C1 → (pd R (C1 + C2) R C1 0 j = (e : Int) ↔ j = (geb R C1 (bs1 R C1 C2 e)).toNat)) ∧ ∀ j, j < gn R C2 → pd R (C1 + C2) R C2 C1 j ≠ (e : Int)) ∧
    (¬ gcell R (C1 + C2) e % (C1 + C2) < C1 → bs2 R C1 C2 e < 2 * (R * C2) ∧ 0 ≤ geb R C2 (bs2 R C1 C2 e) ∧ (geb R C2 (bs2 R C1 C2 e)).toNat < gn R C2 ∧ ∀ j, j < gn R C2 → (pd R (C1 + C2) R C2 C1 j = (e : Int) ↔ j = (geb R C2 (bs2 R C1 C2 e)).toNat))) := by
  have h := bs_D0 R hR C1 (by omega) C2 (by omega)
  unfold bs_A at h
  rw [decide_eq_true (show C1 + C2 ≤ 4 ∧ 1 ≤ C1 ∧ 1 ≤ C2 from ⟨h4, h1, h2⟩), Bool.not_true, Bool.false_or, List.all_eq_true] at h
  have h := h e (List.mem_range.mpr he)
  unfold bs_P at h
  rw [Bool.and_eq_true, Bool.and_eq_true, decide_eq_true_eq, decide_eq_true_eq, Bool.or_eq_true, decide_eq_true_eq] at h
  refine ⟨h.1.1, h.1.2, fun hn => ?_⟩
  have h := h.2.resolve_left hn
  refine ⟨fun c => ?_, fun c => ?_⟩
  · rw [if_pos c] at h
    simp only [Bool.and_eq_true, decide_eq_true_eq, List.all_eq_true, List.mem_range, beq_iff_eq, decide_eq_decide, Bool.not_eq_true', decide_eq_false_iff_not] at h
    exact ⟨h.1.1.1.1, h.1.1.1.2, h.1.1.2, h.1.2, h.2⟩
  · rw [if_neg c] at h
    simp only [Bool.and_eq_true, decide_eq_true_eq, List.all_eq_true, List.mem_range, beq_iff_eq, decide_eq_decide] at h
    exact ⟨h.1.1.1, h.1.1.2, h.1.2, h.2⟩
theorem be_D {R C1 C y : Nat} (hR : R ≤ 4) (hC : C ≤ 4) (h1 : C1 < C) (h2 : 1 ≤ C1) (hy : y < R) : 0 ≤ geb R C (2 * (y * C + C1 - 1)) ∧ (geb R C (2 * (y * C + C1 - 1))).toNat < gn R C ∧ y * C + C1 - 1 < R * C ∧ (∀ e, e < gn R C → (e = (geb R C (2 * (y * C + C1 - 1))).toNat ↔ gbel R C e = 0 ∧ gcell R C e % C + 1 = C1 ∧ gcell R C e / C = y)) ∧ ∀ e, e < gn R C → gcell R C e / C < R := by
  have h := be_D0 R hR C hC C1 h1 h2 y hy
  unfold be_P at h
  simp only [Bool.and_eq_true, decide_eq_true_eq, List.all_eq_true, List.mem_range, beq_iff_eq, decide_eq_decide] at h
  exact ⟨h.1.1.1.1, h.1.1.1.2, h.1.1.2, h.1.2, h.2⟩
section BSD
variable {E : am_E} {k : Nat} {m : MM} {γ : GM} {t : am_H} {Q : Int → MM → GM → am_H → Prop} {a : AST}
def okB (a : AST) (s o w d : Int) : Prop := isG a.1 s ∧ isG a.1 o ∧ (0 ≤ w ∧ w ≤ 3) ∧ 0 ≤ d ∧ d < 3
noncomputable def v_beside (a : AST) (s o w d : Int) : Int := ift (okB a s o w d) (ift ((a.1 s.toNat).2.1 + (a.1 o.toNat).2.1 ≤ 4) (ift ((a.1 s.toNat).1 = (a.1 o.toNat).1) (((a.1 s.toNat).2.1 + (a.1 o.toNat).2.1 : Nat) : Int) (-6)) (-5)) (-2)
noncomputable def n_beside (a : AST) (s o w d : Int) : AST := ifA (okB a s o w d ∧ (a.1 s.toNat).2.1 + (a.1 o.toNat).2.1 ≤ 4 ∧ (a.1 s.toNat).1 = (a.1 o.toNat).1) (aput a d.toNat (gB (a.1 s.toNat) (a.1 o.toNat) w)) a
def bF (R C1 C2 : Nat) (k1 k2 : Nat → Int) : Nat → Int := scat (gn R (C1 + C2)) (fun j => pd R (C1 + C2) R C2 C1 j) k2 (gn R C2) (scat (gn R (C1 + C2)) (fun j => pd R (C1 + C2) R C1 0 j) k1 (gn R C1) (fun _ => 0))
def bY (R C1 C2 : Nat) (k1 k2 : Nat → Int) (h : Int) (y : Nat) (e : Nat) : Int := if e < gn R (C1 + C2) ∧ gbel R (C1 + C2) e = 0 ∧ gcell R (C1 + C2) e % (C1 + C2) + 1 = C1 ∧ gcell R (C1 + C2) e / (C1 + C2) < y then h else bF R C1 C2 k1 k2 e
theorem bY_end {R C1 C2 : Nat} {k1 k2 : Nat → Int} {h : Int} (hR : 1 ≤ R ∧ R ≤ 4) (h4 : C1 + C2 ≤ 4) (h1 : 1 ≤ C1) (h2 : 1 ≤ C2) : (R, C1 + C2, bY R C1 C2 k1 k2 h R) = nrm (R, C1 + C2, bsE R C1 C2 k1 k2 h) := by
  refine Prod.ext rfl (Prod.ext rfl (funext fun e => ?_))
  show bY R C1 C2 k1 k2 h R e = if e < gn R (C1 + C2) then bsE R C1 C2 k1 k2 h e else 0
  unfold bY
  by_cases he : e < gn R (C1 + C2)
  · obtain ⟨d1, d2, d3⟩ := bs_D hR.2 h4 h1 h2 he
    have d5 := (be_D (y := 0) hR.2 h4 (show C1 < C1 + C2 by omega) h1 (by omega)).2.2.2.2 e he
    rw [if_pos he]
    unfold bsE
    by_cases c1 : gbel R (C1 + C2) e = 0 ∧ gcell R (C1 + C2) e % (C1 + C2) + 1 = C1
    · rw [if_pos c1, if_pos ⟨he, c1.1, c1.2, d5⟩]
    · rw [if_neg c1, if_neg (fun q => c1 ⟨q.2.1, q.2.2.1⟩)]
      unfold bF
      by_cases c2 : gcell R (C1 + C2) e % (C1 + C2) < C1
      · obtain ⟨f1, f2, f3, f4, f5⟩ := (d3 c1).1 c2
        rw [if_pos c2, scat_out _ (fun j hj => f5 j hj), scat_hit he ((f4 _ f3).mpr rfl) _ f3 (fun j hj q => (f4 j hj).mp q)]
      · obtain ⟨f1, f2, f3, f4⟩ := (d3 c1).2 c2
        rw [if_neg c2, scat_hit he ((f4 _ f3).mpr rfl) _ f3 (fun j hj q => (f4 j hj).mp q)]
  · rw [if_neg (fun q => he q.1), if_neg he]
    unfold bF
    rw [scat_far (by omega), scat_far (by omega)]
theorem bY_step {R C1 C2 y : Nat} {k1 k2 : Nat → Int} {h : Int} (hR : R ≤ 4) (h4 : C1 + C2 ≤ 4) (h1 : 1 ≤ C1) (h2 : 1 ≤ C2) (hy : y < R) : up (bY R C1 C2 k1 k2 h y) (geb R (C1 + C2) (2 * (y * (C1 + C2) + C1 - 1))).toNat h = bY R C1 C2 k1 k2 h (y + 1) := by
  obtain ⟨d1, d2, d3, d4, d5⟩ := be_D hR h4 (show C1 < C1 + C2 by omega) h1 hy
  funext e
  unfold up bY
  by_cases c : e = (geb R (C1 + C2) (2 * (y * (C1 + C2) + C1 - 1))).toNat
  · have q := (d4 e (by omega)).mp c
    rw [if_pos c, if_pos ⟨by omega, q.1, q.2.1, by omega⟩]
  · rw [if_neg c]
    by_cases c2 : e < gn R (C1 + C2) ∧ gbel R (C1 + C2) e = 0 ∧ gcell R (C1 + C2) e % (C1 + C2) + 1 = C1 ∧ gcell R (C1 + C2) e / (C1 + C2) < y
    · rw [if_pos c2, if_pos ⟨c2.1, c2.2.1, c2.2.2.1, by omega⟩]
    · rw [if_neg c2, if_neg (fun q => c2 ⟨q.1, q.2.1, q.2.2.1, ?_⟩)]
      have : gcell R (C1 + C2) e / (C1 + C2) ≠ y := fun z => c ((d4 e q.1).mpr ⟨q.2.1, q.2.2.1, z⟩)
      omega
theorem bY_0 {R C1 C2 : Nat} {k1 k2 : Nat → Int} {h : Int} : bY R C1 C2 k1 k2 h 0 = bF R C1 C2 k1 k2 := by
  funext e
  exact if_neg (fun q => absurd q.2.2.2 (Nat.not_lt_zero _))
end BSD
