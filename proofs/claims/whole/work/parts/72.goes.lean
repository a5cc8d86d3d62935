/-! ===== the reference: a grid comes into a slot; the walk ===== -/
def nrm (G : GV) : GV := (G.1, G.2.1, fun e => if e < gn G.1 G.2.1 then G.2.2 e else 0)
theorem nrm_nG (G : GV) : nG (nrm G) := fun e he => if_neg (by
  have : gn (nrm G).1 (nrm G).2.1 = gn G.1 G.2.1 := rfl
  omega)
theorem nrm_id {G : GV} (h : nG G) : nrm G = G := by
  unfold nrm
  obtain ⟨R, C, kd⟩ := G
  simp only [Prod.mk.injEq, true_and]
  funext e
  split
  · rfl
  · exact (h e (by simp only; omega)).symm
section R2
variable {E : am_E} {k : Nat} {m : MM} {γ : GM} {t : am_H}
theorem RG.le {G : GV} (h : RG m G) : G.1 ≤ 4 ∧ G.2.1 ≤ 4 ∧ 1 ≤ G.1 ∧ 1 ≤ G.2.1 ∧ gn G.1 G.2.1 ≤ 24 ∧ nC G ≤ 64 := by
  have h1 := h.2.2.1.1
  have h2 := h.2.2.2
  unfold gok at h1
  have h3 : G.1 ≤ 4 ∧ G.2.1 ≤ 4 ∧ 1 ≤ G.1 ∧ 1 ≤ G.2.1 := by omega
  have h4 : G.1 * G.2.1 ≤ 4 * 4 := Nat.mul_le_mul h3.1 h3.2.1
  exact ⟨h3.1, h3.2.1, h3.2.2.1, h3.2.2.2, gn_le _ h3.1 _ h3.2.1, by unfold nC; omega⟩
theorem S_puts {Q : Int → MM → GM → am_H → Prop} {g : Nat → GV} {ks : List (Nat → GV)} {G : GV} {s v : Int} (he : EN (m 159) g) (hng : nG (g s.toNat)) (hk : KP m ks) (hr : RG m G) (hs : 0 ≤ s ∧ s < 3) (hv : rJ v)
    (q1 : ∀ m1, g s.toNat = nrm G → fr [159, 160, 161] [3] m m1 → EN (m1 159) g → KP m1 ks → Q v m1 γ t)
    (q2 : ∀ m1, g s.toNat ≠ nrm G → fr [159, 160, 161] [3] m m1 → EN (m1 159) (gset g s.toNat (nrm G)) → KP m1 ((g :: ks).take 10) → Q v m1 γ t) : TI E (k + 1) 202 [.ref 158, .int (iI s), .int (iI v)] m γ t Q := by
  obtain ⟨a1, a2, a3⟩ := he s.toNat (by omega)
  have hle := hr.le
  let L : Nat → Prop := fun e => (g s.toNat).1 = G.1 ∧ (g s.toNat).2.1 = G.2.1 ∧ ∀ e', e' < e → (g s.toNat).2.2 e' = (nrm G).2.2 e'
  have loop : ∀ e, e ≤ 24 → ∀ (m2 : MM) (y3 : Int), fr [159, 160, 161] [3] m m2 → (∀ j, j < 78 → m2 160 j = m 159 j) → KP m2 ks → (y3 = 0 ∧ ¬ L e ∨ y3 = 1 ∧ L e) → m2 159 (26 * s.toNat) = G.1 → m2 159 (26 * s.toNat + 1) = G.2.1 → (∀ j, j < 24 → m2 159 (26 * s.toNat + 2 + j) = if j < e then (nrm G).2.2 j else (g s.toNat).2.2 j) → (∀ j, (j < 26 * s.toNat ∨ 26 * s.toNat + 26 ≤ j) → m2 159 j = m 159 j) → hd_X9_puts_75 E k s v s v y3 (e : Int) m2 γ t Q := by
    refine upN ?_ ?_
    · intro m2 y3 hf hw hk2 hy r0 r1 r2 r3
      have hEN : EN (m2 159) (gset g s.toNat (nrm G)) := by
        intro i hi
        unfold gset
        by_cases hi2 : i = s.toNat
        · rw [if_pos hi2, hi2]
          exact ⟨r0, r1, fun e hee => by rw [r2 e hee, if_pos hee]⟩
        · rw [if_neg hi2, r3 _ (by omega), r3 _ (by omega)]
          obtain ⟨b1, b2, b3⟩ := he i hi
          exact ⟨b1, b2, fun e hee => by rw [r3 _ (by omega)]; exact b3 e hee⟩
      refine vc_X9_puts_75 (by omega) hv (by omega) hv (by omega) (by omega) ⟨fun c => absurd c (by omega), fun c => ⟨fun c2 => ?_, fun c2 => ?_⟩⟩
      · refine S_keeps (w := g) (ks := ks) (he.congr hw) hk2 hv (fun m3 hf3 hk3 => ?_)
        refine q2 m3 (fun e => ?_) (hf.trans (hf3.mono (by decide) (by decide))) (by rw [hf3.1 159 (by decide) (by decide)]; exact hEN) hk3
        rcases hy with hy | hy
        · refine hy.2 ⟨by rw [e]; rfl, by rw [e]; rfl, fun e' _ => by rw [e]⟩
        · omega
      · have hL : L 24 := by
          rcases hy with hy | hy
          · exact absurd hy.1 c2
          · exact hy.2
        have hgg : g s.toNat = nrm G := by
          have e1 : (g s.toNat) = ((g s.toNat).1, (g s.toNat).2.1, (g s.toNat).2.2) := rfl
          rw [e1]
          unfold nrm
          rw [hL.1, hL.2.1]
          congr 2
          funext e
          rcases Nat.lt_or_ge e 24 with h24 | h24
          · exact hL.2.2 e h24
          · rw [if_neg (by omega)]
            exact hng e (by rw [hL.1, hL.2.1]; omega)
        refine q1 m2 hgg hf ?_ hk2
        have : gset g s.toNat (nrm G) = g := by
          funext i
          unfold gset
          split
          · next h => rw [h, hgg]
          · rfl
        rw [this] at hEN
        exact hEN
    · intro e hee ih m2 y3 hf hw hk2 hy r0 r1 r2 r3
      have h6 : m2 158 6 = (gn G.1 G.2.1 : Int) := (hf.2 6 (by decide)).trans hr.1.2.2.1
      have hnxt : ∀ (y3' its : Int), its = (nrm G).2.2 e → (y3' = 0 ∧ ¬ L (e + 1) ∨ y3' = 1 ∧ L (e + 1)) → hd_X9_puts_75 E k s v s v y3' ((e : Int) + 1) (up m2 159 (up (m2 159) ((((26 * s) + 2) + (e : Int)).toNat) its)) γ t Q := by
        intro y3' its hi hy'
        rw [show (((26 * s) + 2) + (e : Int)).toNat = 26 * s.toNat + 2 + e by omega]
        refine ih _ y3' (hf.upa 159 (by decide) (by decide)) hw (hk2.fr (l := [159]) (fl := []) (fr.refl.upa 159 (by decide) (by decide)) (by decide) (by decide)) hy' ?_ ?_ (fun j hj => ?_) (fun j hj => ?_)
        · rw [up_self, up_ne (by omega)]
          exact r0
        · rw [up_self, up_ne (by omega)]
          exact r1
        · rw [up_self]
          by_cases hje : j = e
          · subst hje
            rw [up_self, if_pos (by omega), hi]
          · rw [up_ne (by omega), r2 j hj]
            by_cases hlt : j < e
            · rw [if_pos hlt, if_pos (by omega)]
            · rw [if_neg hlt, if_neg (by omega)]
        · rw [up_self, up_ne (by omega)]
          exact r3 j hj
      have old : m2 159 ((((26 * s) + 2) + (e : Int)).toNat) = (g s.toNat).2.2 e := by
        rw [show (((26 * s) + 2) + (e : Int)).toNat = 26 * s.toNat + 2 + e by omega, r2 e hee, if_neg (by omega)]
      have Lno : ¬ L e → ¬ L (e + 1) := fun h h' => h ⟨h'.1, h'.2.1, fun e' he' => h'.2.2 e' (by omega)⟩
      have Lyes : L e → (g s.toNat).2.2 e = (nrm G).2.2 e → L (e + 1) := fun h h' => ⟨h.1, h.2.1, fun e' he' => by
        by_cases q : e' = e
        · rw [q]; exact h'
        · exact h.2.2 e' (by omega)⟩
      have Lne : (g s.toNat).2.2 e ≠ (nrm G).2.2 e → ¬ L (e + 1) := fun h h' => h (h'.2.2 e (by omega))
      refine vc_X9_puts_75 (by omega) hv (by omega) hv (by omega) (by omega) ⟨fun c => ⟨fun c2 => ⟨by omega, ?_⟩, fun c2 => ?_⟩, fun c => absurd c (by omega)⟩
      · have hit : m2 162 ((e : Int).toNat) = (nrm G).2.2 e := by
          rw [Int.toNat_natCast, hf.1 162 (by decide) (by decide), hr.2.1 e (by omega)]
          show G.2.2 e = if e < gn G.1 G.2.1 then G.2.2 e else 0
          rw [if_pos (by omega)]
        refine ⟨fun c3 => ⟨by omega, hnxt 0 _ hit (Or.inl ⟨rfl, Lno ?_⟩)⟩, fun c3 => ⟨by omega, fun c4 => ⟨by omega, hnxt 1 _ hit (Or.inr ⟨rfl, Lyes ?_ ?_⟩)⟩, fun c4 => ⟨by omega, hnxt 0 _ hit (Or.inl ⟨rfl, Lne ?_⟩)⟩⟩⟩
        · rcases hy with hy | hy
          · exact hy.2
          · omega
        · rcases hy with hy | hy
          · omega
          · exact hy.2
        · rw [← old, c4, hit]
        · rw [← old, ← hit]
          exact c4
      · have hit : (0 : Int) = (nrm G).2.2 e := by
          show (0 : Int) = if e < gn G.1 G.2.1 then G.2.2 e else 0
          rw [if_neg (by omega)]
        refine ⟨fun c3 => ⟨by omega, hnxt 0 _ hit (Or.inl ⟨rfl, Lno ?_⟩)⟩, fun c3 => ⟨by omega, fun c4 => ⟨by omega, hnxt 1 _ hit (Or.inr ⟨rfl, Lyes ?_ ?_⟩)⟩, fun c4 => ⟨by omega, hnxt 0 _ hit (Or.inl ⟨rfl, Lne ?_⟩)⟩⟩⟩
        · rcases hy with hy | hy
          · exact hy.2
          · omega
        · rcases hy with hy | hy
          · omega
          · exact hy.2
        · rw [← old, c4, hit]
        · rw [← old, ← hit]
          exact c4
  refine vc_X9_puts (by omega) hv (S_remembers (fun m1 hf hw => ⟨by omega, ?_⟩))
  have h4 : m1 158 4 = (G.1 : Int) := (hf.2 4 (by decide)).trans hr.1.1
  have h5 : m1 158 5 = (G.2.1 : Int) := (hf.2 5 (by decide)).trans hr.1.2.1
  have e159 : m1 159 = m 159 := hf.1 159 (by decide) (by decide)
  rw [h4, h5, e159, show (26 * s).toNat = 26 * s.toNat by omega, show ((26 * s) + 1).toNat = 26 * s.toNat + 1 by omega, a1, a2]
  have start : ∀ y3 : Int, (y3 = 0 ∧ ¬ L 0 ∨ y3 = 1 ∧ L 0) → hd_X9_puts_75 E k s v s v y3 0 (up (up m1 159 (up (m 159) (26 * s.toNat) (G.1 : Int))) 159 (up (up (m 159) (26 * s.toNat) (G.1 : Int)) (26 * s.toNat + 1) (G.2.1 : Int))) γ t Q := by
    intro y3 hy
    refine loop 0 (by decide) _ y3 (((hf.mono (by decide) (by decide)).upa 159 (by decide) (by decide)).upa 159 (by decide) (by decide)) hw (hk.fr (l := [159, 160]) (fl := []) (((hf.mono (by decide) (by decide)).upa 159 (by decide) (by decide)).upa 159 (by decide) (by decide)) (by decide) (by decide)) hy ?_ ?_ (fun j hj => ?_) (fun j hj => ?_)
    · rw [up_self, up_ne (by omega), up_self]
    · rw [up_self, up_self]
    · rw [up_self, up_ne (by omega), up_ne (by omega), if_neg (Nat.not_lt_zero _)]
      exact a3 j hj
    · rw [up_self, up_ne (by omega), up_ne (by omega)]
  refine ⟨fun c => ⟨by omega, fun c2 => ⟨by omega, by omega, start 1 (Or.inr ⟨rfl, by omega, by omega, fun e' h => absurd h (Nat.not_lt_zero _)⟩)⟩, fun c2 => ⟨by omega, by omega, start 0 (Or.inl ⟨rfl, fun h => c2 (by rw [h.2.1])⟩)⟩⟩, fun c => ⟨by omega, by omega, start 0 (Or.inl ⟨rfl, fun h => c (by rw [h.1])⟩)⟩⟩
theorem S_edgeOfSide {Q : Int → MM → GM → am_H → Prop} {G : GV} {z1 z2 : Int} {c s : Nat} (h : RG m G) (e1 : z1 = (c : Int)) (e2 : z2 = (s : Int)) (hc : c < G.1 * G.2.1) (hs : s < 4) (hQ : Q (ges G.1 G.2.1 c s) m γ t) : TI E k 208 [.ref 158, .int (iI z1), .int (iI z2)] m γ t Q := by
  subst e1 e2
  have hle := h.le
  have hRC : G.1 * G.2.1 ≤ 16 := Nat.mul_le_mul hle.1 hle.2.1
  obtain ⟨g4, g5, g6, g7, g8⟩ := h.1
  unfold ges at hQ
  refine vc_X9_edgeOfSide (by omega) (by omega) ?_
  unfold W_X9_edgeOfSide
  rw [g5]
  refine ⟨fun c1 => ⟨by omega, ?_⟩, fun c1 => ⟨fun c2 => ⟨by omega, ?_⟩, fun c2 => ⟨fun c3 => ⟨by omega, by omega, ?_⟩, fun c3 => ⟨fun c4 => ?_, fun c4 => ⟨by omega, ?_⟩⟩⟩⟩⟩
  · have : s = 1 := by omega
    subst this
    rw [show (2 * (c : Int)).toNat = 2 * c by omega, g8 _ (by omega)]
    exact hQ
  · have : s = 2 := by omega
    subst this
    rw [show ((2 * (c : Int)) + 1).toNat = 2 * c + 1 by omega, g8 _ (by omega)]
    exact hQ
  · have : s = 3 := by omega
    subst this
    have hm : (c : Int) % (G.2.1 : Int) = ((c % G.2.1 : Nat) : Int) := by simp
    have := Nat.mod_le c G.2.1
    rw [hm]
    refine ⟨by omega, fun c4 => ?_, fun c4 => ⟨by omega, ?_⟩⟩
    · rw [if_neg (by omega), if_neg (by omega), if_neg (by omega), if_neg (by omega)] at hQ
      exact hQ
    · rw [if_neg (by omega), if_neg (by omega), if_neg (by omega), if_pos (by omega)] at hQ
      rw [show (2 * ((c : Int) - 1)).toNat = 2 * (c - 1) by omega, g8 _ (by omega)]
      exact hQ
  · have : s = 0 := by omega
    subst this
    rw [if_pos rfl, if_neg (by omega)] at hQ
    exact hQ
  · have : s = 0 := by omega
    subst this
    rw [if_pos rfl, if_pos (by omega)] at hQ
    rw [show ((2 * ((c : Int) - (G.2.1 : Int))) + 1).toNat = 2 * (c - G.2.1) + 1 by omega, g8 _ (by omega)]
    exact hQ
def bb (b : Bool) : Int := if b then 1 else 0
theorem by_D : ∀ R, R ≤ 4 → ∀ C, C ≤ 4 → ∀ c, c < R * C → ∀ s, s < 4 → ges R C c s = -1 ∨ ((if gcell R C (ges R C c s).toNat = c then gcell R C (ges R C c s).toNat + (if gbel R C (ges R C c s).toNat = 1 then C else 1) else gcell R C (ges R C c s).toNat) = byN C c s ∧ byN C c s < R * C) := by decide +kernel
theorem goesOn_60 {Q : MM → GM → am_H → Prop} {G : GV} {c : Nat} {b : Bool} {x1 x2 y3 y5 y6 : Int} (hx1 : rJ x1) (hx2 : rJ x2) (h : RG m G) (hc : c < nC G) (e3 : y3 = ((c / 4 : Nat) : Int)) (e5 : y5 = (exs c b : Int)) (e6 : y6 = exk G (c, b)) (h19 : m 158 19 = exe G.1 G.2.1 c b)
    (hQ : ∀ m1, fr [] [17, 18] m m1 → m1 158 17 = ((nx G (c, b)).1 : Int) → m1 158 18 = bb (nx G (c, b)).2 → Q m1 γ t) : hd_X9_goesOn_60 E k x1 x2 (bb b) y3 y5 y6 m γ t Q := by
  have hle := h.le
  have hRC : G.1 * G.2.1 ≤ 16 := Nat.mul_le_mul hle.1 hle.2.1
  have hG := h.2.2.1
  have hk := exk_rng hG (x := (c, b)) hc
  have hexs := exs_lt c b
  have hcc : c / 4 < G.1 * G.2.1 := by unfold nC at hc; omega
  have her := exe_rng hG (x := (c, b)) hc
  simp only at her
  have fin : ∀ (z1 z2 : Int), rJ z1 → z1 = ((nx G (c, b)).1 : Int) → z2 = bb (nx G (c, b)).2 → Q (up (up m 158 (up (m 158) 17 z1)) 158 (up (up (m 158) 17 z1) 18 z2)) γ t := by
    intro z1 z2 _ h1 h2
    refine hQ _ ⟨fun a ha _ => ?_, fun j hj => ?_⟩ h1 h2
    · rw [up_ne ha, up_ne ha]
    · rw [up_self, up_ne (show j ≠ 18 from fun e => hj (by rw [e]; decide)), up_ne (show j ≠ 17 from fun e => hj (by rw [e]; decide))]
  have hbb : bb b = 0 ∨ bb b = 1 := by cases b <;> simp [bb]
  refine vc_X9_goesOn_60 hx1 hx2 (by omega) (by omega) (by omega) (by omega) ⟨fun c1 => ?_, fun c1 => ?_⟩
  · have hk2 : exk G (c, b) = 2 := by omega
    have hnx := nx_wall hk2
    have hlt := (nx_ok hG (x := (c, b)) hc).1
    have l1 : (nx G (c, b)).1 = 4 * (c / 4) + (if b then exs c b else (exs c b + 3) % 4) := by rw [hnx]
    have l2 : (nx G (c, b)).2 = b := by rw [hnx]
    refine ⟨fun c2 => ?_, fun c2 => ?_⟩
    · have hb : b = false := by cases b <;> simp [bb] at c2 ⊢
      subst hb
      simp only [Bool.false_eq_true, if_false] at l1
      exact ⟨by omega, by omega, by omega, hbb, fin _ _ (by omega) (by omega) (by rw [l2])⟩
    · have hb : b = true := by cases b <;> simp [bb] at c2 ⊢
      subst hb
      simp only [if_true] at l1
      exact ⟨by omega, hbb, fin _ _ (by omega) (by omega) (by rw [l2])⟩
  · have hk2 : exk G (c, b) ≠ 2 := by omega
    have hne : exe G.1 G.2.1 c b ≠ -1 := fun e => hk2 (by unfold exk; exact if_pos e)
    have hby := (by_D _ hle.1 _ hle.2.1 (c / 4) hcc (exs c b) hexs).resolve_left hne
    have hee : exe G.1 G.2.1 c b = ges G.1 G.2.1 (c / 4) (exs c b) := rfl
    rw [← hee] at hby
    have hge : (exe G.1 G.2.1 c b).toNat < gn G.1 G.2.1 := by omega
    obtain ⟨gc, gb⟩ := h.1.2.2.2.1 _ hge
    have nxt : ∀ (to : Int), to = (byN G.2.1 (c / 4) (exs c b) : Int) → (rJ (y5 + 2) ∧ (0 ≤ (y5 + 2) ∧ (((y6 = 3) → (((bb b = 0) → (rJ (((y5 + 2) % 4) + 3) ∧ (0 ≤ (((y5 + 2) % 4) + 3) ∧ (rJ ((4 * to) + ((((y5 + 2) % 4) + 3) % 4)) ∧ ((bb b = 0 ∨ bb b = 1) ∧ (Q (up (up m 158 (up (m 158) 17 ((4 * to) + ((((y5 + 2) % 4) + 3) % 4)))) 158 (up (up (m 158) 17 ((4 * to) + ((((y5 + 2) % 4) + 3) % 4))) 18 (bb b))) γ t)))))) ∧ (¬ (bb b = 0) → (rJ ((4 * to) + ((y5 + 2) % 4)) ∧ ((bb b = 0 ∨ bb b = 1) ∧ (Q (up (up m 158 (up (m 158) 17 ((4 * to) + ((y5 + 2) % 4)))) 158 (up (up (m 158) 17 ((4 * to) + ((y5 + 2) % 4))) 18 (bb b))) γ t)))))) ∧ (¬ (y6 = 3) → (((bb b = 0) → (rJ ((4 * to) + ((y5 + 2) % 4)) ∧ (Q (up (up m 158 (up (m 158) 17 ((4 * to) + ((y5 + 2) % 4)))) 158 (up (up (m 158) 17 ((4 * to) + ((y5 + 2) % 4))) 18 1)) γ t))) ∧ (¬ (bb b = 0) → (rJ (((y5 + 2) % 4) + 3) ∧ (0 ≤ (((y5 + 2) % 4) + 3) ∧ (rJ ((4 * to) + ((((y5 + 2) % 4) + 3) % 4)) ∧ (Q (up (up m 158 (up (m 158) 17 ((4 * to) + ((((y5 + 2) % 4) + 3) % 4)))) 158 (up (up (m 158) 17 ((4 * to) + ((((y5 + 2) % 4) + 3) % 4))) 18 0)) γ t)))))))))) := by
      intro to hto
      have hlt := hby.2
      refine ⟨by omega, by omega, fun c2 => ?_, fun c2 => ?_⟩
      · have hnx := nx_gap (show exk G (c, b) = 3 by omega)
        have l1 : (nx G (c, b)).1 = 4 * byN G.2.1 (c / 4) (exs c b) + (if b then (exs c b + 2) % 4 else ((exs c b + 2) % 4 + 3) % 4) := by rw [hnx]
        have l2 : (nx G (c, b)).2 = b := by rw [hnx]
        refine ⟨fun c3 => ?_, fun c3 => ?_⟩
        · have hb : b = false := by cases b <;> simp [bb] at c3 ⊢
          subst hb
          simp only [Bool.false_eq_true, if_false] at l1
          exact ⟨by omega, by omega, by omega, hbb, fin _ _ (by omega) (by omega) (by rw [l2])⟩
        · have hb : b = true := by cases b <;> simp [bb] at c3 ⊢
          subst hb
          simp only [if_true] at l1
          exact ⟨by omega, hbb, fin _ _ (by omega) (by omega) (by rw [l2])⟩
      · have hnx := nx_cross (show exk G (c, b) = 0 ∨ exk G (c, b) = 1 by omega)
        have l1 : (nx G (c, b)).1 = 4 * byN G.2.1 (c / 4) (exs c b) + (if b then ((exs c b + 2) % 4 + 3) % 4 else (exs c b + 2) % 4) := by rw [hnx]
        have l2 : (nx G (c, b)).2 = !b := by rw [hnx]
        refine ⟨fun c3 => ?_, fun c3 => ?_⟩
        · have hb : b = false := by cases b <;> simp [bb] at c3 ⊢
          subst hb
          simp only [Bool.false_eq_true, if_false] at l1
          exact ⟨by omega, fin _ _ (by omega) (by omega) (by rw [l2]; rfl)⟩
        · have hb : b = true := by cases b <;> simp [bb] at c3 ⊢
          subst hb
          simp only [if_true] at l1
          exact ⟨by omega, by omega, by omega, fin _ _ (by omega) (by omega) (by rw [l2]; rfl)⟩
    rw [h19]
    refine ⟨by omega, fun c2 => ?_, fun c2 => ⟨by omega, ?_⟩⟩
    · rw [gc] at c2
      rw [show exe G.1 G.2.1 c b = (((exe G.1 G.2.1 c b).toNat : Nat) : Int) by omega]
      refine S_behind h.1 hle.1 hle.2.1 hge ?_
      rw [if_pos (show gcell G.1 G.2.1 (exe G.1 G.2.1 c b).toNat = c / 4 by omega)] at hby
      exact nxt _ (by rw [hby.1])
    · rw [gc] at c2 ⊢
      rw [if_neg (show ¬ gcell G.1 G.2.1 (exe G.1 G.2.1 c b).toNat = c / 4 by omega)] at hby
      exact nxt _ (by rw [hby.1])
theorem S_goesOn {Q : MM → GM → am_H → Prop} {G : GV} {c : Nat} {b : Bool} {z1 z2 : Int} (e1 : z1 = (c : Int)) (e2 : z2 = bb b) (h : RG m G) (hc : c < nC G)
    (hQ : ∀ m1, fr [] [17, 18, 19] m m1 → m1 158 17 = ((nx G (c, b)).1 : Int) → m1 158 18 = bb (nx G (c, b)).2 → m1 158 19 = exe G.1 G.2.1 c b → Q m1 γ t) : TV E (k + 1) 209 [.ref 158, .int (iI z1), .int (iI z2)] m γ t Q := by
  have hle := h.le
  have hRC : G.1 * G.2.1 ≤ 16 := Nat.mul_le_mul hle.1 hle.2.1
  have hcc : c / 4 < G.1 * G.2.1 := by unfold nC at hc; omega
  have her := exe_rng h.2.2.1 (x := (c, b)) hc
  simp only at her
  have hexs := exs_lt c b
  subst e1 e2
  have hbb : bb b = 0 ∨ bb b = 1 := by cases b <;> simp [bb]
  have tail : ∀ y5 : Int, y5 = (exs c b : Int) → TI E k 208 [.ref 158, .int (iI ((c : Int) / 4)), .int (iI y5)] m γ t (fun v6 m6 γ6 t6 => (((v6 = (-1)) → (hd_X9_goesOn_60 E k (c : Int) (bb b) (bb b) ((c : Int) / 4) y5 2 (up m6 158 (up (m6 158) 19 v6)) γ6 t6 Q)) ∧ (¬ (v6 = (-1)) → ((0 ≤ v6 ∧ v6 < 24) ∧ (hd_X9_goesOn_60 E k (c : Int) (bb b) (bb b) ((c : Int) / 4) y5 (m6 162 ((v6).toNat)) (up m6 158 (up (m6 158) 19 v6)) γ6 t6 Q))))) := by
    intro y5 h5
    have f19 : fr [] [19] m (up m 158 (up (m 158) 19 (exe G.1 G.2.1 c b))) := fr.refl.upf (by decide)
    have key : ∀ y6 : Int, y6 = exk G (c, b) → hd_X9_goesOn_60 E k (c : Int) (bb b) (bb b) ((c : Int) / 4) y5 y6 (up m 158 (up (m 158) 19 (exe G.1 G.2.1 c b))) γ t Q := by
      intro y6 h6
      refine goesOn_60 (by omega) (by omega) (h.fr f19 (by decide) (by decide) (by decide) (by decide) (by decide) (by decide) (by decide)) hc (by omega) h5 h6 rfl (fun m1 hf a1 a2 => ?_)
      refine hQ m1 ((f19.mono (by decide) (by decide)).trans (hf.mono (by decide) (by decide))) a1 a2 ?_
      rw [hf.2 19 (by decide)]
      rfl
    refine S_edgeOfSide h (by omega) h5 hcc hexs ?_
    refine ⟨fun c1 => key 2 ?_, fun c1 => ⟨?_, key _ ?_⟩⟩
    · unfold exk
      exact (if_pos c1).symm
    · have : exe G.1 G.2.1 c b = ges G.1 G.2.1 (c / 4) (exs c b) := rfl
      omega
    · unfold exk
      show _ = if ges G.1 G.2.1 (c / 4) (exs c b) = -1 then 2 else G.2.2 (ges G.1 G.2.1 (c / 4) (exs c b)).toNat
      rw [if_neg c1]
      have : ges G.1 G.2.1 (c / 4) (exs c b) = exe G.1 G.2.1 c b := rfl
      rw [this]
      have h0 : ¬ exe G.1 G.2.1 c b = -1 := c1
      exact h.2.1 _ (by omega)
  refine vc_X9_goesOn (by omega) (by omega) ⟨by omega, by omega, fun c1 => ?_, fun c1 => ?_⟩
  · have hb : b = false := by cases b <;> simp [bb] at c1 ⊢
    refine tail _ ?_
    rw [hb]
    unfold exs
    simp only [Bool.false_eq_true, if_false]
    omega
  · have hb : b = true := by cases b <;> simp [bb] at c1 ⊢
    refine ⟨by omega, by omega, tail _ ?_⟩
    rw [hb]
    unfold exs
    simp only [if_true]
    omega
end R2
