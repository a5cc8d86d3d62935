/-! ===== joins: labels of corners, mates of open ends ===== -/
def JI (N : Nat) (op : Nat → Prop) (mu L : Nat → Nat) : Prop := (∀ c, c < N → L c < N ∧ L (L c) = L c) ∧ (∀ x, op x → x < 2 * N ∧ op (mu x) ∧ mu x ≠ x ∧ mu (mu x) = x) ∧ ∀ x y, op x → op y → (L (x / 2) = L (y / 2) ↔ y = x ∨ y = mu x)
def opL (op : Nat → Prop) (x y z : Nat) : Prop := op z ∧ z ≠ x ∧ z ≠ y
def muM (mu : Nat → Nat) (x y : Nat) : Nat → Nat := up (up mu (mu x) (mu y)) (mu y) (mu x)
def lbM (L : Nat → Nat) (x y : Nat) (c : Nat) : Nat := if L c = L (y / 2) then L (x / 2) else L c
theorem JI.close {N : Nat} {op : Nat → Prop} {mu L : Nat → Nat} (h : JI N op mu L) {x y : Nat} (hx : op x) (he : mu x = y) : JI N (opL op x y) mu L := by
  obtain ⟨h1, h2, h3⟩ := h
  refine ⟨h1, fun z hz => ?_, fun u v hu hv => h3 u v hu.1 hv.1⟩
  obtain ⟨a1, a2, a3, a4⟩ := h2 z hz.1
  refine ⟨a1, ⟨a2, fun q => hz.2.2 ?_, fun q => hz.2.1 ?_⟩, a3, a4⟩
  · rw [← he, ← q, a4]
  · rw [← a4, q, ← he, (h2 x hx).2.2.2]
theorem JI.merge {N : Nat} {op : Nat → Prop} {mu L : Nat → Nat} (h : JI N op mu L) {x y : Nat} (hx : op x) (hy : op y) (hne : x ≠ y) (he : mu x ≠ y) : JI N (opL op x y) (muM mu x y) (lbM L x y) := by
  obtain ⟨h1, h2, h3⟩ := h
  obtain ⟨x1, x2, x3, x4⟩ := h2 x hx
  obtain ⟨y1, y2, y3, y4⟩ := h2 y hy
  have hab : mu x ≠ mu y := fun q => hne (by rw [← x4, q, y4])
  have hxy : L (x / 2) ≠ L (y / 2) := fun q => by
    rcases (h3 x y hx hy).mp q with c | c
    · exact hne c.symm
    · exact he c.symm
  have lx : ∀ u, opL op x y u → (L (u / 2) = L (x / 2) ↔ u = mu x) := by
    intro u hu
    refine ⟨fun q => ?_, fun q => ?_⟩
    · rcases (h3 x u hx hu.1).mp q.symm with c | c
      · exact absurd c hu.2.1
      · exact c
    · exact ((h3 x u hx hu.1).mpr (Or.inr q)).symm
  have ly : ∀ u, opL op x y u → (L (u / 2) = L (y / 2) ↔ u = mu y) := by
    intro u hu
    refine ⟨fun q => ?_, fun q => ?_⟩
    · rcases (h3 y u hy hu.1).mp q.symm with c | c
      · exact absurd c hu.2.2
      · exact c
    · exact ((h3 y u hy hu.1).mpr (Or.inr q)).symm
  have mA : muM mu x y (mu x) = mu y := by
    unfold muM
    rw [up_ne hab, up_self]
  have mB : muM mu x y (mu y) = mu x := by
    unfold muM
    rw [up_self]
  have mO : ∀ u, u ≠ mu x → u ≠ mu y → muM mu x y u = mu u := fun u q1 q2 => by
    unfold muM
    rw [up_ne q2, up_ne q1]
  have oA : opL op x y (mu x) := ⟨x2, x3, he⟩
  have oB : opL op x y (mu y) := ⟨y2, fun q => he (by rw [← q, y4]), y3⟩
  refine ⟨fun c hc => ?_, fun u hu => ?_, fun u v hu hv => ?_⟩
  · obtain ⟨c1, c2⟩ := h1 c hc
    have d1 := h1 (x / 2) (by omega)
    unfold lbM
    by_cases q : L c = L (y / 2)
    · rw [if_pos q]
      refine ⟨d1.1, ?_⟩
      rw [d1.2, if_neg hxy]
    · rw [if_neg q]
      refine ⟨c1, ?_⟩
      rw [c2, if_neg q]
  · obtain ⟨a1, a2, a3, a4⟩ := h2 u hu.1
    by_cases q1 : u = mu x
    · rw [q1, mA, mB]
      exact ⟨q1 ▸ a1, oB, hab.symm, rfl⟩
    · by_cases q2 : u = mu y
      · rw [q2, mB, mA]
        exact ⟨q2 ▸ a1, oA, hab, rfl⟩
      · have n1 : mu u ≠ x := fun q => q1 (by rw [← q, a4])
        have n2 : mu u ≠ y := fun q => q2 (by rw [← q, a4])
        have n3 : mu u ≠ mu x := fun q => hu.2.1 (by rw [← a4, q, x4])
        have n4 : mu u ≠ mu y := fun q => hu.2.2 (by rw [← a4, q, y4])
        rw [mO u q1 q2, mO _ n3 n4]
        exact ⟨a1, ⟨a2, n1, n2⟩, a3, a4⟩
  · have g := h3 u v hu.1 hv.1
    have ux := lx u hu
    have uy := ly u hu
    have vx := lx v hv
    have vy := ly v hv
    unfold lbM
    by_cases p1 : u = mu x
    · rw [if_neg (fun q => hab (by rw [← p1, ← uy.mp q])), p1, mA]
      by_cases p2 : v = mu y
      · rw [if_pos (vy.mpr p2), ← p1, ux.mpr p1]
        exact ⟨fun _ => Or.inr p2, fun _ => rfl⟩
      · rw [if_neg (fun q => p2 (vy.mp q)), ← p1, ux.mpr p1]
        refine ⟨fun q => Or.inl (by rw [p1]; exact vx.mp q.symm), fun q => ?_⟩
        rcases q with q | q
        · exact (vx.mpr (by rw [q, p1])).symm
        · exact absurd q p2
    · by_cases p2 : u = mu y
      · rw [if_pos (uy.mpr p2), p2, mB]
        by_cases p3 : v = mu y
        · rw [if_pos (vy.mpr p3)]
          exact ⟨fun _ => Or.inl p3, fun _ => rfl⟩
        · rw [if_neg (fun q => p3 (vy.mp q))]
          refine ⟨fun q => Or.inr (vx.mp q.symm), fun q => ?_⟩
          rcases q with q | q
          · exact absurd q p3
          · exact (vx.mpr q).symm
      · rw [if_neg (fun q => p2 (uy.mp q)), mO u p1 p2]
        by_cases p3 : v = mu y
        · rw [if_pos (vy.mpr p3)]
          refine ⟨fun q => absurd (ux.mp q) p1, fun q => ?_⟩
          rcases q with q | q
          · exact absurd (q.symm.trans p3) p2
          · exfalso
            exact hu.2.2 (by rw [← (h2 u hu.1).2.2.2, ← q, p3, y4])
        · rw [if_neg (fun q => p3 (vy.mp q))]
          exact g
/-- how many labels -/
def rpN (L : Nat → Nat) (N : Nat) : Int := sumN (fun c => if L c = c then 1 else 0) N
theorem JI.rep {N : Nat} {op : Nat → Prop} {mu L : Nat → Nat} (h : JI N op mu L) {x y : Nat} (hx : op x) (hy : op y) (hne : x ≠ y) (he : mu x ≠ y) : rpN (lbM L x y) N = rpN L N - 1 := by
  obtain ⟨h1, h2, h3⟩ := h
  have x1 := (h2 x hx).1
  have y1 := (h2 y hy).1
  have hxy : L (x / 2) ≠ L (y / 2) := fun q => by
    rcases (h3 x y hx hy).mp q with c | c
    · exact hne c.symm
    · exact he c.symm
  have d1 := h1 (x / 2) (by omega)
  have d2 := h1 (y / 2) (by omega)
  have e : rpN L N = sumN (fun c => (if lbM L x y c = c then 1 else 0) + (if c = L (y / 2) then 1 else 0)) N := by
    refine sumN_congr (fun c hc => ?_)
    show (if L c = c then (1 : Int) else 0) = (if lbM L x y c = c then 1 else 0) + (if c = L (y / 2) then 1 else 0)
    by_cases q : c = L (y / 2)
    · have q2 : L c = c := by rw [q]; exact d2.2
      have q3 : lbM L x y c ≠ c := by
        unfold lbM
        rw [if_pos (by rw [q2]; exact q), q]
        exact hxy
      rw [if_pos q2, if_neg q3, if_pos q]
      rfl
    · rw [if_neg q, Int.add_zero]
      have : lbM L x y c = c ↔ L c = c := by
        unfold lbM
        by_cases p : L c = L (y / 2)
        · rw [if_pos p]
          refine ⟨fun z => ?_, fun z => absurd (z.symm.trans p) q⟩
          exfalso
          apply hxy
          rw [← p, ← z, d1.2]
        · rw [if_neg p]
      by_cases p : L c = c
      · rw [if_pos p, if_pos (this.mpr p)]
      · rw [if_neg p, if_neg (fun z => p (this.mp z))]
  rw [e, sumN_add, sumN_one (f := fun c => if c = L (y / 2) then 1 else 0) (i := L (y / 2)) (fun j hj => if_neg hj), if_pos d2.1, if_pos rfl]
  show rpN (lbM L x y) N = rpN (lbM L x y) N + 1 - 1
  omega
