/-! ===== what the class holds ===== -/
/-- sums -/
def sumN (f : Nat → Int) : Nat → Int
  | 0 => 0
  | n + 1 => sumN f n + f n
/-- crosses made gaps (bit 1) or walls -/
def xrk (G : GV) (e : Nat) : Nat := (cnt G.2.2 0 e + cnt G.2.2 1 e).toNat
def smo (G : GV) (set : Nat) : GV := (G.1, G.2.1, fun e => if e < gn G.1 G.2.1 ∧ (G.2.2 e = 0 ∨ G.2.2 e = 1) then (if set.testBit (xrk G e) then 3 else 2) else G.2.2 e)
def lps (G : GV) (set : Nat) : Nat := nS (smo G set)
def rai (G : GV) (set : Nat) : Int := sumN (fun e => if (G.2.2 e = 0 ∧ set.testBit (xrk G e) = true) ∨ (G.2.2 e = 1 ∧ set.testBit (xrk G e) = false) then 1 else 0) (gn G.1 G.2.1)
def tal (G : GV) (r n : Nat) : Int := sumN (fun set => if rai G set = (r : Int) ∧ lps G set = n then 1 else 0) (2 ^ (nX G).toNat)
def bino : Nat → Nat → Int
  | _, 0 => 1
  | 0, _ + 1 => 0
  | n + 1, i + 1 => bino n i + bino n (i + 1)
def cfA (f : Nat) (d : Int) : Int := sumN (fun i => if d = 2 * (f : Int) - 4 * (i : Int) then (if f % 2 = 0 then bino f i else -bino f i) else 0) (f + 1)
def trm (G : GV) (j : Int) : Int := sumN (fun r => sumN (fun n => tal G r (n + 1) * cfA n (j - (2 * (r : Int) - nX G))) 16) 13
def SE (m : MM) (γ : GM) : Prop := nG (γ 29) ∧ (0 < (γ 29).1 → (∀ r, r < 13 → ∀ n, n < 17 → m (37 + r) n = tal (γ 29) r n) ∧ ∀ j, j < 201 → m 50 j = trm (γ 29) ((j : Int) - 100))
/-- slots, history (slot, what was there; the latest first), tape, fault (number, place), out -/
abbrev AST : Type := (Nat → GV) × List (Nat × GV) × List Int × (Int × Int) × List Int
def TPc (m : MM) (tp : List Int) (f : Int × Int) : Prop := m 99 1 = (tp.length : Int) ∧ tp.length ≤ 400 ∧ (∀ i, (h : i < tp.length) → m 100 i = Int.bmod tp[i] 256 ∧ 0 ≤ tp[i] ∧ tp[i] < 256) ∧ m 99 2 = f.1 ∧ m 99 3 = f.2
def OUc (m : MM) (ou : List Int) : Prop := m 101 1 = (ou.length : Int) ∧ ou.length ≤ 400 ∧ ∀ i, (h : i < ou.length) → m 102 i = ou[i] ∧ 0 ≤ ou[i] ∧ ou[i] < 128
def ACc (m : MM) (γ : GM) (hs : List (Nat × GV)) : Prop := m 103 2 = (hs.length : Int) ∧ hs.length ≤ 10 ∧ ∃ top : Nat, m 103 3 = (top : Int) ∧ top < 10 ∧ ∀ i, (h : i < hs.length) → m 104 ((top + 9 - i) % 10) = (hs[i].1 : Int) ∧ γ (106 + 4 * ((top + 9 - i) % 10)) = hs[i].2 ∧ hs[i].1 < 3 ∧ vG hs[i].2 ∧ nG hs[i].2
def CI (m : MM) (γ : GM) (a : AST) : Prop :=
  (∀ s, s < 3 → γ (146 + 4 * s) = a.1 s ∧ vG (a.1 s) ∧ nG (a.1 s)) ∧ (nG (γ 11) ∧ TrOK m (γ 11)) ∧ SE m γ ∧ TPc m a.2.2.1 a.2.2.2.1 ∧ OUc m a.2.2.2.2 ∧ ACc m γ a.2.1
/-- nothing that lasts has changed -/
def pfC (m : MM) (γ : GM) (m1 : MM) (γ1 : GM) : Prop := (∀ a, 99 ≤ a → m1 a = m a) ∧ ∀ g, 106 ≤ g → γ1 g = γ g
def pfS (m : MM) (γ : GM) (m1 : MM) (γ1 : GM) : Prop := (∀ a, 28 ≤ a → a ≤ 50 → m1 a = m a) ∧ γ1 29 = γ 29
theorem CI.move {m m1 : MM} {γ γ1 : GM} {a : AST} (h : CI m γ a) (hp : pfC m γ m1 γ1) (h1 : nG (γ1 11) ∧ TrOK m1 (γ1 11)) (h2 : SE m1 γ1) : CI m1 γ1 a := by
  obtain ⟨c1, c2, c3, c4, c5, c6⟩ := h
  refine ⟨fun s hs => by rw [hp.2 _ (by omega)]; exact c1 s hs, h1, h2, ?_, ?_, ?_⟩
  · unfold TPc
    rw [hp.1 99 (by decide), hp.1 100 (by decide)]
    exact c4
  · unfold OUc
    rw [hp.1 101 (by decide), hp.1 102 (by decide)]
    exact c5
  · unfold ACc
    rw [hp.1 103 (by decide), hp.1 104 (by decide)]
    obtain ⟨d1, d2, top, d3, d4, d5⟩ := c6
    exact ⟨d1, d2, top, d3, d4, fun i hi => by rw [hp.2 _ (by omega)]; exact d5 i hi⟩
theorem SE.move {m m1 : MM} {γ γ1 : GM} (h : SE m γ) (hp : pfS m γ m1 γ1) : SE m1 γ1 := by
  unfold SE
  rw [hp.2]
  refine ⟨h.1, fun q => ⟨fun r hr n hn => ?_, fun j hj => ?_⟩⟩
  · rw [hp.1 (37 + r) (by omega) (by omega)]
    exact (h.2 q).1 r hr n hn
  · rw [hp.1 50 (by decide) (by decide)]
    exact (h.2 q).2 j hj
theorem frT_pfC {m m1 : MM} {γ : GM} {G : GV} (hf : frT m m1) : pfC m γ m1 (up γ 11 G) ∧ pfS m γ m1 (up γ 11 G) := ⟨⟨fun a ha => hf a (by omega) (by omega), fun g hg => up_ne (by omega)⟩, ⟨fun a h1 h2 => hf a (by omega) (by omega), up_ne (by decide)⟩⟩
theorem CI.follow {m m1 : MM} {γ : GM} {a : AST} {G : GV} (h : CI m γ a) (hT : TrOK m1 G) (hn : nG G) (hf : frT m m1) : CI m1 (up γ 11 G) a :=
  h.move (frT_pfC hf).1 (by rw [up_self]; exact ⟨hn, hT⟩) (h.2.2.1.move (frT_pfC hf).2)
/-- rows and grids of the class that a look may change -/
def rsame (m m1 : MM) : Prop := ∀ a, 158 ≤ a → m1 a = m a
theorem pfC.rs {m m1 : MM} {γ γ1 : GM} (h : pfC m γ m1 γ1) : rsame m m1 := fun a ha => h.1 a (by omega)
theorem oN {A : Prop} {B : Nat → Prop} (h : A) : ((none : Option Nat) = none → A) ∧ (∀ a, (none : Option Nat) = some a → B a) := ⟨fun _ => h, fun _ q => (nomatch q)⟩
theorem oSm {A : Prop} {B : Nat → Prop} {a : Nat} (h : B a) : (some a = none → A) ∧ (∀ b, some a = some b → B b) := ⟨fun q => (nomatch q), fun b q => by cases q; exact h⟩
section C1
variable {E : am_E} {k : Nat} {m : MM} {γ : GM} {t : am_H}
theorem CI.sl {a : AST} (h : CI m γ a) {s : Int} (h0 : 0 ≤ s) (h3 : s < 3) : γ (146 + 4 * s.toNat) = a.1 s.toNat ∧ vG (a.1 s.toNat) ∧ nG (a.1 s.toNat) := h.1 s.toNat (by omega)
theorem S_CisSlot {Q : Int → MM → GM → am_H → Prop} {s : Int} (h1 : rJ s) (q1 : 0 ≤ s ∧ s < 3 → Q 1 m γ t) (q0 : ¬ (0 ≤ s ∧ s < 3) → Q 0 m γ t) : TI E k 176 [.int (iI s)] m γ t Q :=
  vc_X8_isSlot h1 ⟨fun c => q0 (by omega), fun c => ⟨fun c2 => q1 (by omega), fun c2 => q0 (by omega)⟩⟩
theorem S_isBit {Q : Int → MM → GM → am_H → Prop} {s : Int} (h1 : rJ s) (q1 : s = 0 ∨ s = 1 → Q 1 m γ t) (q0 : ¬ (s = 0 ∨ s = 1) → Q 0 m γ t) : TI E k 177 [.int (iI s)] m γ t Q :=
  vc_X8_isBit h1 ⟨fun c => q1 (by omega), fun c => ⟨fun c2 => q1 (by omega), fun c2 => q0 (by omega)⟩⟩
theorem S_isKind {Q : Int → MM → GM → am_H → Prop} {s : Int} (h1 : rJ s) (q1 : 0 ≤ s ∧ s ≤ 3 → Q 1 m γ t) (q0 : ¬ (0 ≤ s ∧ s ≤ 3) → Q 0 m γ t) : TI E k 178 [.int (iI s)] m γ t Q :=
  vc_X8_isKind h1 ⟨fun c => q0 (by omega), fun c => ⟨fun c2 => q1 (by omega), fun c2 => q0 (by omega)⟩⟩
theorem S_gridIn {Q : Option Nat → MM → GM → am_H → Prop} {a : AST} {s : Int} (hC : CI m γ a) (hs : rJ s) (q0 : ¬ isG a.1 s → Q none m γ t) (q1 : isG a.1 s → Q (some (146 + 4 * s.toNat)) m γ t) : TA E (k + 1) 184 [.ref 0, .int (iI s)] m γ t Q := by
  refine vc_X8_gridIn hs (S_CisSlot hs (fun c => b1 ⟨c, ?_⟩) (fun c => b0 (q0 (fun h => c ⟨h.1, h.2.1⟩))))
  obtain ⟨e1, e2, e3⟩ := hC.sl c.1 c.2
  refine S_rows (isg_146 (by omega)) (fun hle => ?_)
  rw [e1]
  refine ⟨fun c2 => q0 (fun h => ?_), fun c2 => ⟨c, q1 ⟨c.1, c.2, by omega⟩⟩⟩
  have := h.2.2
  omega
/-- the grid of a slot -/
theorem isG.i {a : AST} {s : Int} (hC : CI m γ a) (h : isG a.1 s) : isg (146 + 4 * s.toNat) ∧ γ (146 + 4 * s.toNat) = a.1 s.toNat ∧ vG (a.1 s.toNat) ∧ nG (a.1 s.toNat) ∧ 1 ≤ (a.1 s.toNat).1 ∧ (a.1 s.toNat).1 ≤ 4 ∧ 1 ≤ (a.1 s.toNat).2.1 ∧ (a.1 s.toNat).2.1 ≤ 4 := by
  obtain ⟨e1, e2, e3⟩ := hC.sl h.1 h.2.1
  have hh := h.sh e2
  exact ⟨isg_146 (by have := h.1; have := h.2.1; omega), e1, e2, e3, hh.1, hh.2.1, hh.2.2.1, hh.2.2.2⟩
theorem S_followS {Q : MM → GM → am_H → Prop} {a : AST} {s : Int} (hC : CI m γ a) (hs : isG a.1 s) (hQ : ∀ m1, CI m1 (up γ 11 (a.1 s.toNat)) a → TrOK m1 (a.1 s.toNat) → frT m m1 → Q m1 (up γ 11 (a.1 s.toNat)) t) : TV E (k + 4) 95 [.ref 10, .ref (146 + 4 * s.toNat)] m γ t Q := by
  obtain ⟨i1, i2, i3, i4, -⟩ := hs.i hC
  refine S_follow i1 (by omega) hC.2.1.1 (by rw [i2]; exact i4) (by rw [i2]; exact i3) hC.2.1.2 (fun m1 hT hf => ?_)
  rw [i2] at hT ⊢
  exact hQ m1 (hC.follow hT i4 hf) hT hf
theorem S_hasCell {Q : Int → MM → GM → am_H → Prop} {a : AST} {s c : Int} (hC : CI m γ a) (hs : rJ s) (hc : rJ c) (q1 : isG a.1 s → 0 ≤ c ∧ c < (((a.1 s.toNat).1 * (a.1 s.toNat).2.1 : Nat) : Int) → Q 1 m γ t) (q0 : ¬ (isG a.1 s ∧ 0 ≤ c ∧ c < (((a.1 s.toNat).1 * (a.1 s.toNat).2.1 : Nat) : Int)) → Q 0 m γ t) : TI E (k + 2) 185 [.ref 0, .int (iI s), .int (iI c)] m γ t Q := by
  refine vc_X8_hasCell hs hc (S_gridIn hC hs (fun c1 => oN (q0 (fun h => c1 h.1))) (fun c1 => oSm ?_))
  obtain ⟨i1, i2, -⟩ := c1.i hC
  refine ⟨i1, S_hasCellG i1 hc (fun c2 => b1 (q1 c1 ?_)) (fun c2 => b0 (q0 (fun h => c2 ?_)))⟩
  · rw [i2] at c2
    exact c2
  · rw [i2]
    exact h.2
theorem S_traceOfCorner {Q : Option Nat → MM → GM → am_H → Prop} {a : AST} {s c x : Int} (hC : CI m γ a) (hs : rJ s) (hc : rJ c) (hx : rJ x)
    (q0 : ¬ (isG a.1 s ∧ (0 ≤ c ∧ c < (((a.1 s.toNat).1 * (a.1 s.toNat).2.1 : Nat) : Int)) ∧ 0 ≤ x ∧ x ≤ 3) → Q none m γ t)
    (q1 : isG a.1 s → (0 ≤ c ∧ c < (((a.1 s.toNat).1 * (a.1 s.toNat).2.1 : Nat) : Int)) → 0 ≤ x ∧ x ≤ 3 → ∀ m1 γ1, CI m1 γ1 a → TrOK m1 (a.1 s.toNat) → γ1 11 = a.1 s.toNat → rsame m m1 → Q (some 10) m1 γ1 t) : TA E (k + 5) 187 [.ref 0, .int (iI s), .int (iI c), .int (iI x)] m γ t Q := by
  refine vc_X8_traceOfCorner hs hc hx (S_hasCell hC hs hc (fun c1 c2 => b1 ⟨fun c3 => q0 (by omega), fun c3 => ⟨fun c4 => ⟨⟨c1.1, c1.2.1⟩, S_followS hC c1 (fun m1 hC1 hT hf => q1 c1 c2 (by omega) m1 _ hC1 hT up_self (fun b hb => hf b (by omega) (by omega)))⟩, fun c4 => q0 (by omega)⟩⟩) (fun c1 => b0 (q0 (fun h => c1 ⟨h.1, h.2.1⟩))))
theorem S_hasStrand {Q : Int → MM → GM → am_H → Prop} {G : GV} {x : Int} (hT : TrOK m G) (hx : rJ x) (q1 : 0 ≤ x ∧ x < nS G → Q 1 m γ t) (q0 : ¬ (0 ≤ x ∧ x < nS G) → Q 0 m γ t) : TI E k 100 [.ref 10, .int (iI x)] m γ t Q := by
  refine vc_X7_hasStrand hx ?_
  unfold W_X7_hasStrand
  rw [hT.2.2.2.2]
  exact ⟨fun c => q0 (by omega), fun c => ⟨fun c2 => q1 (by omega), fun c2 => q0 (by omega)⟩⟩
theorem S_traceOfStrand {Q : Option Nat → MM → GM → am_H → Prop} {a : AST} {s x : Int} (hC : CI m γ a) (hs : rJ s) (hx : rJ x)
    (q0 : ¬ (isG a.1 s ∧ 0 ≤ x ∧ x < nS (a.1 s.toNat)) → ∀ m1 γ1, CI m1 γ1 a → rsame m m1 → Q none m1 γ1 t)
    (q1 : isG a.1 s → 0 ≤ x ∧ x < nS (a.1 s.toNat) → ∀ m1 γ1, CI m1 γ1 a → TrOK m1 (a.1 s.toNat) → γ1 11 = a.1 s.toNat → rsame m m1 → Q (some 10) m1 γ1 t) : TA E (k + 5) 188 [.ref 0, .int (iI s), .int (iI x)] m γ t Q := by
  refine vc_X8_traceOfStrand hs hx (S_gridIn hC hs (fun c1 => oN (q0 (fun h => c1 h.1) m γ hC (fun _ _ => rfl))) (fun c1 => oSm ?_))
  obtain ⟨i1, i2, -⟩ := c1.i hC
  refine ⟨i1, S_followS hC c1 (fun m1 hC1 hT hf => ?_)⟩
  have hrs : rsame m m1 := fun b hb => hf b (by omega) (by omega)
  exact S_hasStrand hT hx (fun c2 => b1 (q1 c1 c2 m1 _ hC1 hT up_self hrs)) (fun c2 => b0 (q0 (fun h => c2 h.2) m1 _ hC1 hrs))
theorem S_traceOf {Q : Option Nat → MM → GM → am_H → Prop} {a : AST} {s : Int} (hC : CI m γ a) (hs : isG a.1 s) (hQ : ∀ m1 γ1, CI m1 γ1 a → TrOK m1 (a.1 s.toNat) → γ1 11 = a.1 s.toNat → rsame m m1 → (∀ g, g ≠ 11 → γ1 g = γ g) → Q (some 10) m1 γ1 t) : TA E (k + 5) 186 [.ref 0, .ref (146 + 4 * s.toNat)] m γ t Q :=
  vc_X8_traceOf (hs.i hC).1 (S_followS hC hs (fun m1 hC1 hT hf => hQ m1 _ hC1 hT up_self (fun b hb => hf b (by omega) (by omega)) (fun g hg => up_ne hg)))
theorem S_strandsOf {Q : Int → MM → GM → am_H → Prop} {a : AST} {s : Int} (hC : CI m γ a) (hs : isG a.1 s) (hQ : ∀ m1 γ1, CI m1 γ1 a → rsame m m1 → Q (nS (a.1 s.toNat) : Int) m1 γ1 t) : TI E (k + 5) 189 [.ref 0, .int (iI s)] m γ t Q := by
  have hr : rJ s := ⟨by have := hs.1; omega, by have := hs.2.1; omega⟩
  refine vc_X8_strandsOf hr (S_gridIn hC hr (fun c1 => absurd hs c1) (fun c1 => oSm ?_))
  refine ⟨(hs.i hC).1, S_followS hC hs (fun m1 hC1 hT hf => vc_X7_strands ?_)⟩
  unfold W_X7_strands
  rw [hT.2.2.2.2]
  exact hQ m1 _ hC1 (fun b hb => hf b (by omega) (by omega))
end C1
