/-! ===== the class: Grid, at, put, fill, follow, as statements of memory ===== -/
section C0
variable {E : am_E} {k : Nat} {m : MM} {γ : GM} {t : am_H}
theorem TI_aI {Q : Int → MM → GM → am_H → Prop} {M : Nat} {As : List Value} {z : Int} (w : ∀ h, ST h m γ t → wp E k M 0 (am_entry As (am_mls.getD M 0)) [] h (aI z h)) (hz : rJ z) (hQ : Q z m γ t) : TI E k M As m γ t Q := fun h S => (w h S).mono (fun r h' q => ⟨z, m, γ, t, q.1, hz, q.2 ▸ S, hQ⟩)
theorem S_rows {Q : Int → MM → GM → am_H → Prop} {g : Nat} (hg : isg g) (hQ : (γ g).1 ≤ 4 → Q ((γ g).1 : Int) m γ t) : TI E k 25 [.ref g] m γ t Q := fun h S => by
  have hle := (S.gg g hg).1.le
  exact TI_aI (fun h S => G_rows (S.gg g hg)) (by omega) (hQ hle.1) h S
theorem S_columns {Q : Int → MM → GM → am_H → Prop} {g : Nat} (hg : isg g) (hQ : (γ g).2.1 ≤ 4 → Q ((γ g).2.1 : Int) m γ t) : TI E k 26 [.ref g] m γ t Q := fun h S => by
  have hle := (S.gg g hg).1.le
  exact TI_aI (fun h S => G_columns (S.gg g hg)) (by omega) (hQ hle.2) h S
theorem S_gcells {Q : Int → MM → GM → am_H → Prop} {g : Nat} (hg : isg g) (hQ : (γ g).1 * (γ g).2.1 ≤ 16 → Q (((γ g).1 * (γ g).2.1 : Nat) : Int) m γ t) : TI E k 27 [.ref g] m γ t Q := fun h S => by
  have hle := (S.gg g hg).1.le
  have h2 : (γ g).1 * (γ g).2.1 ≤ 4 * 4 := Nat.mul_le_mul hle.1 hle.2
  exact TI_aI (fun h S => G_cells (S.gg g hg)) (by omega) (hQ h2) h S
theorem S_edges {Q : Int → MM → GM → am_H → Prop} {g : Nat} (hg : isg g) (hQ : gn (γ g).1 (γ g).2.1 ≤ 24 → Q (gn (γ g).1 (γ g).2.1 : Int) m γ t) : TI E k 28 [.ref g] m γ t Q := fun h S => by
  have hle := (S.gg g hg).1.le
  have h2 := gn_le _ hle.1 _ hle.2
  exact TI_aI (fun h S => G_edges (S.gg g hg)) (by omega) (hQ h2) h S
theorem S_hasEdge {Q : Int → MM → GM → am_H → Prop} {g : Nat} {e : Int} (hg : isg g) (he : rJ e) (q1 : 0 ≤ e ∧ e < gn (γ g).1 (γ g).2.1 → Q 1 m γ t) (q0 : ¬ (0 ≤ e ∧ e < gn (γ g).1 (γ g).2.1) → Q 0 m γ t) : TI E k 29 [.ref g, .int (iI e)] m γ t Q := by
  by_cases c : 0 ≤ e ∧ e < gn (γ g).1 (γ g).2.1
  · exact TI_aI (fun h S => by have := G_hasEdge (E := E) (k := k) (S.gg g hg) e he.1 he.2; rw [if_pos c] at this; exact this) (by decide) (q1 c)
  · exact TI_aI (fun h S => by have := G_hasEdge (E := E) (k := k) (S.gg g hg) e he.1 he.2; rw [if_neg c] at this; exact this) (by decide) (q0 c)
theorem S_hasCellG {Q : Int → MM → GM → am_H → Prop} {g : Nat} {e : Int} (hg : isg g) (he : rJ e) (q1 : 0 ≤ e ∧ e < (((γ g).1 * (γ g).2.1 : Nat) : Int) → Q 1 m γ t) (q0 : ¬ (0 ≤ e ∧ e < (((γ g).1 * (γ g).2.1 : Nat) : Int)) → Q 0 m γ t) : TI E k 30 [.ref g, .int (iI e)] m γ t Q := by
  by_cases c : 0 ≤ e ∧ e < (((γ g).1 * (γ g).2.1 : Nat) : Int)
  · exact TI_aI (fun h S => by have := G_hasCell (E := E) (k := k) (S.gg g hg) e he.1 he.2; rw [if_pos c] at this; exact this) (by decide) (q1 c)
  · exact TI_aI (fun h S => by have := G_hasCell (E := E) (k := k) (S.gg g hg) e he.1 he.2; rw [if_neg c] at this; exact this) (by decide) (q0 c)
theorem S_rowOf {Q : Int → MM → GM → am_H → Prop} {g : Nat} {z : Int} (c : Nat) (hg : isg g) (hz : z = (c : Int)) (h1 : 1 ≤ (γ g).2.1) (hc : c < 1000) (hQ : Q ((c / (γ g).2.1 : Nat) : Int) m γ t) : TI E k 31 [.ref g, .int (iI z)] m γ t Q := by
  subst hz
  have := Nat.div_le_self c (γ g).2.1
  exact TI_aI (fun h S => G_rowOf (S.gg g hg) h1 c hc) ⟨Int.le_trans (by decide) (Int.natCast_nonneg _), Int.lt_of_le_of_lt (Int.ofNat_le.mpr this) (by omega)⟩ hQ
theorem S_columnOf {Q : Int → MM → GM → am_H → Prop} {g : Nat} {z : Int} (c : Nat) (hg : isg g) (hz : z = (c : Int)) (h1 : 1 ≤ (γ g).2.1) (hc : c < 1000) (hQ : Q ((c % (γ g).2.1 : Nat) : Int) m γ t) : TI E k 32 [.ref g, .int (iI z)] m γ t Q := by
  subst hz
  have := Nat.mod_le c (γ g).2.1
  exact TI_aI (fun h S => G_columnOf (S.gg g hg) h1 c hc) ⟨Int.le_trans (by decide) (Int.natCast_nonneg _), Int.lt_of_le_of_lt (Int.ofNat_le.mpr this) (by omega)⟩ hQ
theorem S_kindOf {Q : Int → MM → GM → am_H → Prop} {g : Nat} {z : Int} (e : Nat) (hg : isg g) (hz : z = (e : Int)) (he : e < gn (γ g).1 (γ g).2.1) (hQ : 0 ≤ (γ g).2.2 e ∧ (γ g).2.2 e ≤ 3 → Q ((γ g).2.2 e) m γ t) : TI E k 33 [.ref g, .int (iI z)] m γ t Q := fun h S => by
  subst hz
  have hk := (S.gg g hg).2.1 e he
  exact TI_aI (fun h S => G_kindOf (S.gg g hg) e he) (by omega) (hQ hk) h S
theorem S_kindOf_out {Q : Int → MM → GM → am_H → Prop} {g : Nat} {z : Int} (hg : isg g) (hz : rJ z) (he : ¬ (0 ≤ z ∧ z < gn (γ g).1 (γ g).2.1)) (hQ : Q (-1) m γ t) : TI E k 33 [.ref g, .int (iI z)] m γ t Q :=
  TI_aI (fun h S => G_kindOf_out (S.gg g hg) z hz.1 hz.2 he) (by decide) hQ
theorem S_isCrossG {Q : Int → MM → GM → am_H → Prop} {g : Nat} {z : Int} (e : Nat) (hg : isg g) (hz : z = (e : Int)) (he : e < gn (γ g).1 (γ g).2.1) (q1 : (γ g).2.2 e = 0 ∨ (γ g).2.2 e = 1 → Q 1 m γ t) (q0 : ¬ ((γ g).2.2 e = 0 ∨ (γ g).2.2 e = 1) → Q 0 m γ t) : TI E (k + 1) 34 [.ref g, .int (iI z)] m γ t Q := fun h S => by
  subst hz
  have hle := gn_le _ (S.gg g hg).1.le.1 _ (S.gg g hg).1.le.2
  by_cases c : (γ g).2.2 e = 0 ∨ (γ g).2.2 e = 1
  · exact TI_aI (fun h S => by have := G_isCross (E := E) (k := k) (S.gg g hg) (e : Int) (by omega) (by omega); rw [if_pos ⟨by omega, c⟩] at this; exact this) (by decide) (q1 c) h S
  · exact TI_aI (fun h S => by have := G_isCross (E := E) (k := k) (S.gg g hg) (e : Int) (by omega) (by omega); rw [if_neg (fun q => c q.2)] at this; exact this) (by decide) (q0 c) h S
theorem S_cellOf {Q : Int → MM → GM → am_H → Prop} {g : Nat} {z : Int} (e : Nat) (hg : isg g) (hz : z = (e : Int)) (he : e < gn (γ g).1 (γ g).2.1) (hQ : gcell (γ g).1 (γ g).2.1 e < (γ g).1 * (γ g).2.1 ∧ gcell (γ g).1 (γ g).2.1 e < 16 → Q (gcell (γ g).1 (γ g).2.1 e : Int) m γ t) : TI E (k + 1) 35 [.ref g, .int (iI z)] m γ t Q := fun h S => by
  subst hz
  have h1 := gsp_lt _ (S.gg g hg).1.le.1 _ (S.gg g hg).1.le.2 e he
  have h2 : gcell (γ g).1 (γ g).2.1 e < (γ g).1 * (γ g).2.1 ∧ gcell (γ g).1 (γ g).2.1 e < 16 := by unfold gcell; omega
  exact TI_aI (fun h S => G_cellOf (S.gg g hg) e he) (by omega) (hQ h2) h S
theorem S_belowOf {Q : Int → MM → GM → am_H → Prop} {g : Nat} {z : Int} (e : Nat) (hg : isg g) (hz : z = (e : Int)) (he : e < gn (γ g).1 (γ g).2.1) (hQ : gbel (γ g).1 (γ g).2.1 e ≤ 1 → Q (gbel (γ g).1 (γ g).2.1 e : Int) m γ t) : TI E (k + 1) 36 [.ref g, .int (iI z)] m γ t Q := by
  subst hz
  have h2 := gbel_le (γ g).1 (γ g).2.1 e
  exact TI_aI (fun h S => G_belowOf (S.gg g hg) e he) (by omega) (hQ h2)
theorem S_edgeAt {Q : Int → MM → GM → am_H → Prop} {g : Nat} {z y : Int} (c b : Nat) (hg : isg g) (hz : z = (c : Int)) (hy : y = (b : Int)) (hc : c < (γ g).1 * (γ g).2.1) (hb : b ≤ 1) (hQ : -1 ≤ geb (γ g).1 (γ g).2.1 (2 * c + b) ∧ geb (γ g).1 (γ g).2.1 (2 * c + b) < gn (γ g).1 (γ g).2.1 ∧ gn (γ g).1 (γ g).2.1 ≤ 24 → Q (geb (γ g).1 (γ g).2.1 (2 * c + b)) m γ t) : TI E (k + 1) 37 [.ref g, .int (iI z), .int (iI y)] m γ t Q := fun h S => by
  subst hz hy
  have hle := (S.gg g hg).1.le
  have hRC : (γ g).1 * (γ g).2.1 ≤ 4 * 4 := Nat.mul_le_mul hle.1 hle.2
  have h1 := geb_rng _ hle.1 _ hle.2 (2 * c + b) (by omega)
  have h2 := gn_le _ hle.1 _ hle.2
  exact TI_aI (fun h S => G_edgeAt (S.gg g hg) c b hc hb) (by omega) (hQ ⟨h1.1, h1.2, h2⟩) h S
theorem S_edgeOnSide {Q : Int → MM → GM → am_H → Prop} {g : Nat} {z y : Int} (c s : Nat) (hg : isg g) (hz : z = (c : Int)) (hy : y = (s : Int)) (hc : c < (γ g).1 * (γ g).2.1) (hs : s ≤ 3) (hQ : -1 ≤ ges (γ g).1 (γ g).2.1 c s ∧ ges (γ g).1 (γ g).2.1 c s < gn (γ g).1 (γ g).2.1 ∧ gn (γ g).1 (γ g).2.1 ≤ 24 → Q (ges (γ g).1 (γ g).2.1 c s) m γ t) : TI E (k + 2) 38 [.ref g, .int (iI z), .int (iI y)] m γ t Q := fun h S => by
  subst hz hy
  have hle := (S.gg g hg).1.le
  have h1 := ges_rng (s := s) hle.1 hle.2 hc
  have h2 := gn_le _ hle.1 _ hle.2
  exact TI_aI (fun h S => G_edgeOnSide (S.gg g hg) c s hc hs) (by omega) (hQ ⟨h1.1, h1.2, h2⟩) h S
theorem S_cellBeyond {Q : Int → MM → GM → am_H → Prop} {g : Nat} {c s : Int} (hg : isg g) (hc : rJ c) (hs : rJ s) (hr : rJ (gBy (γ g).2.1 c s)) (hQ : Q (gBy (γ g).2.1 c s) m γ t) : TI E k 39 [.ref g, .int (iI c), .int (iI s)] m γ t Q :=
  TI_aI (fun h S => G_cellBeyond (S.gg g hg) c s hc.1 hc.2 hs.1 hs.2) hr hQ
theorem S_howMany {Q : Int → MM → GM → am_H → Prop} {g : Nat} {d : Int} (hg : isg g) (hd : rJ d) (hQ : 0 ≤ cnt (γ g).2.2 d (gn (γ g).1 (γ g).2.1) ∧ cnt (γ g).2.2 d (gn (γ g).1 (γ g).2.1) ≤ gn (γ g).1 (γ g).2.1 ∧ gn (γ g).1 (γ g).2.1 ≤ 24 → Q (cnt (γ g).2.2 d (gn (γ g).1 (γ g).2.1)) m γ t) : TI E (k + 1) 40 [.ref g, .int (iI d)] m γ t Q := fun h S => by
  have hle := gn_le _ (S.gg g hg).1.le.1 _ (S.gg g hg).1.le.2
  have h1 := cnt_rng (γ g).2.2 d (gn (γ g).1 (γ g).2.1)
  exact TI_aI (fun h S => G_howMany (S.gg g hg) d hd.1 hd.2) (by omega) (hQ ⟨h1.1, h1.2, hle⟩) h S
def nX (G : GV) : Int := cnt G.2.2 0 (gn G.1 G.2.1) + cnt G.2.2 1 (gn G.1 G.2.1)
theorem cnt2_le (F : Nat → Int) : ∀ j : Nat, 0 ≤ cnt F 0 j + cnt F 1 j ∧ cnt F 0 j + cnt F 1 j ≤ j
  | 0 => by simp [cnt]
  | j + 1 => by
    have := cnt2_le F j
    simp only [cnt]
    split <;> split <;> omega
theorem S_gcrosses {Q : Int → MM → GM → am_H → Prop} {g : Nat} (hg : isg g) (hQ : 0 ≤ nX (γ g) ∧ nX (γ g) ≤ 24 → Q (nX (γ g)) m γ t) : TI E (k + 2) 41 [.ref g] m γ t Q := fun h S => by
  have hle := gn_le _ (S.gg g hg).1.le.1 _ (S.gg g hg).1.le.2
  have h1 := cnt2_le (γ g).2.2 (gn (γ g).1 (γ g).2.1)
  exact TI_aI (fun h S => G_crosses (S.gg g hg)) (by omega) (hQ (by unfold nX; omega)) h S
theorem S_change {Q : MM → GM → am_H → Prop} {g : Nat} {z d : Int} (e : Nat) (hg : isg g) (hz : z = (e : Int)) (he : e < gn (γ g).1 (γ g).2.1) (hd : 0 ≤ d ∧ d ≤ 3) (hQ : Q m (up γ g ((γ g).1, (γ g).2.1, up (γ g).2.2 e d)) t) : TV E (k + 1) 42 [.ref g, .int (iI z), .int (iI d)] m γ t Q := fun h S => by
  subst hz
  have hle := gn_le _ (S.gg g hg).1.le.1 _ (S.gg g hg).1.le.2
  refine (G_change (S.gg g hg) (e : Int) d (by omega) (by omega) hd.1 hd.2).mono (fun r h1 q => ⟨m, _, t, q.1, S.grid hg q.2.1 q.2.2, ?_⟩)
  rw [if_pos (by omega)]
  exact hQ
theorem S_isLike {Q : Int → MM → GM → am_H → Prop} {g g2 : Nat} (hg : isg g) (hg2 : isg g2) (n1 : nG (γ g)) (n2 : nG (γ g2)) (q1 : γ g = γ g2 → Q 1 m γ t) (q0 : γ g ≠ γ g2 → Q 0 m γ t) : TI E (k + 1) 43 [.ref g, .ref g2] m γ t Q := by
  have key : ((γ g).1 = (γ g2).1 ∧ (γ g).2.1 = (γ g2).2.1 ∧ ∀ e, e < gn (γ g).1 (γ g).2.1 → (γ g).2.2 e = (γ g2).2.2 e) ↔ γ g = γ g2 := by
    constructor
    · rintro ⟨h1, h2, h3⟩
      rw [← nrm_id n1, ← nrm_id n2]
      unfold nrm
      rw [← h1, ← h2]
      congr 2
      funext e
      split
      · next h => exact h3 e h
      · rfl
    · intro h
      rw [h]
      exact ⟨rfl, rfl, fun _ _ => rfl⟩
  by_cases c : γ g = γ g2
  · exact TI_aI (fun h S => by have := G_isLike (E := E) (k := k) (S.gg g hg) (S.gg g2 hg2); rw [bI_t (key.mpr c)] at this; exact this) (by decide) (q1 c)
  · exact TI_aI (fun h S => by have := G_isLike (E := E) (k := k) (S.gg g hg) (S.gg g2 hg2); rw [bI_f (fun z => c (key.mp z))] at this; exact this) (by decide) (q0 c)
theorem isg_ap {g g2 : Nat} (h1 : isg g) (h2 : isg g2) (h : g ≠ g2) : g + 3 < g2 ∨ g2 + 3 < g := by
  unfold isg at h1 h2
  omega
theorem S_copy {Q : MM → GM → am_H → Prop} {g g2 : Nat} (hg : isg g) (hg2 : isg g2) (hne : g ≠ g2) (hQ : Q m (up γ g (γ g2)) t) : TV E (k + 3) 44 [.ref g, .ref g2] m γ t Q := fun h S =>
  (G_copy (S.gg g hg) (S.gg g2 hg2) (isg_ap hg hg2 hne)).mono (fun r h1 q => ⟨m, _, t, q.1, S.grid hg q.2.1 q.2.2.1, hQ⟩)
/-- a grid's numbers beyond its edges may be taken as 0 -/
theorem ST.nrm {h : am_H} {g : Nat} {G : GV} (S : ST h m (up γ g G) t) (hg : isg g) : ST h m (up γ g (nrm G)) t := by
  refine ⟨S.1, fun g' hg' => ?_, S.2.2⟩
  have h1 := S.2.1 g' hg'
  by_cases e : g' = g
  · subst e
    rw [up_self] at h1 ⊢
    exact h1.congr (fun e he => by show _ = if e < gn G.1 G.2.1 then G.2.2 e else 0; rw [if_pos he])
  · rw [up_ne e] at h1 ⊢
    exact h1
/-- turned by a quarter; mirrored -/
def gT (G : GV) : GV := nrm (G.2.1, G.1, fun e => G.2.2 (trE G.1 G.2.1 e))
def gM (G : GV) : GV := nrm (G.1, G.2.1, fun e => tov (G.2.2 (miE G.1 G.2.1 e)))
theorem S_turnG {Q : MM → GM → am_H → Prop} {g g2 : Nat} (hg : isg g) (hg2 : isg g2) (hne : g ≠ g2) (hQ : Q m (up γ g (gT (γ g2))) t) : TV E (k + 3) 46 [.ref g, .ref g2] m γ t Q := fun h S =>
  (G_turn (S.gg g hg) (S.gg g2 hg2) (isg_ap hg hg2 hne)).mono (fun r h1 q => ⟨m, _, t, q.1, (S.grid hg q.2.1 q.2.2.1).nrm hg, hQ⟩)
theorem S_mirrG {Q : MM → GM → am_H → Prop} {g g2 : Nat} (hg : isg g) (hg2 : isg g2) (hne : g ≠ g2) (hQ : Q m (up γ g (gM (γ g2))) t) : TV E (k + 3) 47 [.ref g, .ref g2] m γ t Q := fun h S =>
  (G_mirr (S.gg g hg) (S.gg g2 hg2) (isg_ap hg hg2 hne)).mono (fun r h1 q => ⟨m, _, t, q.1, (S.grid hg q.2.1 q.2.2.1).nrm hg, hQ⟩)
theorem S_clear {Q : MM → GM → am_H → Prop} {g : Nat} (hg : isg g) (hQ : Q m (up γ g g00) t) : TV E (k + 3) 22 [.ref g] m γ t Q := fun h S =>
  (G_clear (S.gg g hg)).mono (fun r h1 q => ⟨m, _, t, q.1, S.grid hg q.2.1 q.2.2, hQ⟩)
theorem S_layG {Q : MM → GM → am_H → Prop} {g : Nat} {r c : Int} (hg : isg g) (hr : rJ r) (hc : rJ c) (hQ : Q m (up γ g (layR r c, layC r c, fun _ => 0)) t) : TV E (k + 2) 23 [.ref g, .int (iI r), .int (iI c)] m γ t Q := fun h S => by
  obtain ⟨-, -, K, S1, B, G1, -⟩ := S.gg g hg
  exact (G_lay G1 r c hr.1 hr.2 hc.1 hc.2).mono (fun q h1 z => ⟨m, _, t, z.1, S.grid hg z.2.1 z.2.2, hQ⟩)
theorem S_paste {Q : MM → GM → am_H → Prop} {g g2 : Nat} {z : Int} (cl : Nat) (hg : isg g) (hg2 : isg g2) (hne : g ≠ g2) (hz : z = (cl : Int)) (hR : (γ g2).1 ≤ (γ g).1) (hC : (γ g2).2.1 + cl ≤ (γ g).2.1) (hQ : Q m (up γ g ((γ g).1, (γ g).2.1, scat (gn (γ g).1 (γ g).2.1) (fun j => geb (γ g).1 (γ g).2.1 (2 * ((gcell (γ g2).1 (γ g2).2.1 j / (γ g2).2.1) * (γ g).2.1 + gcell (γ g2).1 (γ g2).2.1 j % (γ g2).2.1 + cl) + gbel (γ g2).1 (γ g2).2.1 j)) (fun j => (γ g2).2.2 j) (gn (γ g2).1 (γ g2).2.1) (γ g).2.2)) t) : TV E (k + 2) 45 [.ref g, .ref g2, .int (iI z)] m γ t Q := fun h S => by
  subst hz
  exact (G_paste (S.gg g hg) (S.gg g2 hg2) hR hC (isg_ap hg hg2 hne)).mono (fun r h1 q => ⟨m, _, t, q.1, S.grid hg q.2.1 q.2.2.1, hQ⟩)
/-! PegStrings.at, put, Arrays.fill -/
theorem S_at {Q : Int → MM → GM → am_H → Prop} {a : Nat} {i : Int} (n : Nat) (ha : ncb a = true) (hq : lay a = (0, n, [])) (hl : lcb a = false) (hn : n ≤ 100000) (hi : rJ i) (hQ : rJ (atn n (m a) i) → Q (atn n (m a) i) m γ t) : TI E k 182 [.ref a, .int (iI i)] m γ t Q := fun h S => by
  have hr := atn_rg (n := n) (fun j => S.rg a j (nl hl)) i
  refine TI_aI (fun h S => ?_) hr (hQ hr) h S
  have hh := S.1 a (nc ha)
  rw [hq] at hh
  exact c_at hh (by have := nc ha; unfold ncel at this; omega) hn i hi.1 hi.2
theorem S_put {Q : MM → GM → am_H → Prop} {a : Nat} {i y : Int} (n : Nat) (ha : ncb a = true) (hq : lay a = (0, n, [])) (hn : n ≤ 100000) (hi : rJ i) (hy : rJ y) (hQ : Q (up m a (ptn n (m a) i y)) γ t) : TV E k 183 [.ref a, .int (iI i), .int (iI y)] m γ t Q := fun h S =>
  (c_put S (nc ha) hq hn i y hi.1 hi.2 hy.1 hy.2).mono (fun r h1 q => ⟨_, γ, t, q.1, q.2, hQ⟩)
theorem S_fill {Q : MM → GM → am_H → Prop} {a : Nat} {v : Int} (n : Nat) (ha : ncb a = true) (hq : lay a = (0, n, [])) (hl : lcb a = false) (hn : n ≤ 100000) (hv : rJ v) (hQ : Q (up m a (flq n v (m a))) γ t) : TV E k 320 [.ref a, .int (iI v)] m γ t Q := fun h S =>
  (c_fill S (nc ha) hq (nl hl) hn v hv.1 hv.2).mono (fun r h1 q => ⟨_, γ, t, q.1, q.2, hQ⟩)
theorem TrOK.upa {a : Nat} {F : Nat → Int} {G : GV} (h : TrOK m G) (h1 : a ≠ 10) (h2 : ¬ (15 ≤ a ∧ a ≤ 26)) : TrOK (up m a F) G := by
  have e : ∀ b, b = 10 ∨ (15 ≤ b ∧ b ≤ 26) → up m a F b = m b := fun b hb => up_ne (by omega)
  unfold TrOK
  rw [e 10 (by omega), e 15 (by omega), e 16 (by omega), e 17 (by omega), e 18 (by omega), e 19 (by omega), e 20 (by omega), e 21 (by omega), e 22 (by omega), e 23 (by omega), e 24 (by omega), e 25 (by omega), e 26 (by omega)]
  exact h
theorem S_followFrom {Q : MM → GM → am_H → Prop} {m0 : MM} {G : GV} {A : AS} {c0 : Nat} (hγ : γ 11 = G) (hA : clo G A) (hp : pok G A) (hc : c0 < nC G) (hv : c0 ∉ cs A) (hbl : A.2.2.2.length = A.2.2.1.length) (hl : A.2.2.1.length ≤ 64) (hT : TM G m0 m A) (hs1 : m 10 1 = (A.2.2.1.length : Int)) (hfr : frT m0 m) (hQ : ∀ m1, TM G m0 m1 (fol G A c0) → m1 10 1 = (A.2.2.1.length : Int) + 1 → frT m0 m1 → Q m1 γ t) : TV E (k + 3) 96 [.ref 10, .int (iI (c0 : Int))] m γ t Q := fun h S =>
  (c_followFrom (R := G.1) (C := G.2.1) (kd := G.2.2) S hγ hA hp hc hv hbl hl hT hs1 hfr).mono (fun r h1 q => by
    obtain ⟨q1, m1, S1, T1, s1, f1⟩ := q
    exact ⟨m1, γ, t, q1, S1, hQ m1 T1 s1 f1⟩)
/-- Trace.follow -/
theorem S_follow {Q : MM → GM → am_H → Prop} {g : Nat} (hg : isg g) (hne : g ≠ 11) (n1 : nG (γ 11)) (n2 : nG (γ g)) (hG : vG (γ g)) (hT : TrOK m (γ 11)) (hQ : ∀ m1, TrOK m1 (γ g) → frT m m1 → Q m1 (up γ 11 (γ g)) t) : TV E (k + 4) 95 [.ref 10, .ref g] m γ t Q := by
  have u11 : isg 11 := gi rfl
  refine vc_X7_follow hg (S_isLike u11 hg n1 n2 (fun c => b1 ?_) (fun c => b0 (S_copy u11 hg (Ne.symm hne) ?_)))
  · have : up γ 11 (γ g) = γ := by
      funext i
      unfold up
      split
      · next h => rw [h, c]
      · rfl
    have h2 := hQ m (c ▸ hT) (fun _ _ _ => rfl)
    rw [this] at h2
    exact h2
  · refine S_fill 64 rfl rfl rfl (by decide) (by decide) (S_fill 24 rfl rfl rfl (by decide) (by decide) (S_fill 24 rfl rfl rfl (by decide) (by decide) ?_))
    obtain ⟨γ', hγ'⟩ : ∃ γ', γ' = up γ 11 (γ g) := ⟨_, rfl⟩
    obtain ⟨m0, hm0⟩ : ∃ m0, m0 = up (up (up (up (up (up m 10 (up (m 10) 1 0)) 10 (up (up (m 10) 1 0) 2 0)) 10 (up (up (up (m 10) 1 0) 2 0) 3 0)) 15 (flq 64 (-1) (up (up (up m 10 (up (m 10) 1 0)) 10 (up (up (m 10) 1 0) 2 0)) 10 (up (up (up (m 10) 1 0) 2 0) 3 0) 15))) 25 (flq 24 (-1) (up (up (up (up m 10 (up (m 10) 1 0)) 10 (up (up (m 10) 1 0) 2 0)) 10 (up (up (up (m 10) 1 0) 2 0) 3 0)) 15 (flq 64 (-1) (up (up (up m 10 (up (m 10) 1 0)) 10 (up (up (m 10) 1 0) 2 0)) 10 (up (up (up (m 10) 1 0) 2 0) 3 0) 15)) 25))) 26 (flq 24 (-1) (m 26)) := ⟨_, rfl⟩
    have f0 : frT m m0 := fun a a1 a2 => by
      rw [hm0, up_ne (by omega), up_ne (by omega), up_ne (by omega), up_ne a1, up_ne a1, up_ne a1]
    have h15 : ∀ c, c < 64 → m0 15 c = -1 := fun c hc => by rw [hm0]; exact if_pos hc
    have h25 : ∀ e, e < gn (γ g).1 (γ g).2.1 → m0 25 e = -1 ∧ m0 26 e = -1 := fun e he => by
      have h24 := gn_le _ hG.1.le.1 _ hG.1.le.2
      rw [hm0]
      exact ⟨if_pos (by omega), if_pos (by omega)⟩
    have hγ11 : γ' 11 = γ g := by rw [hγ', up_self]
    show hd_X7_follow_61 E (k + 3) g 0 _ _ t Q
    have hC64 : nC (γ g) ≤ 64 := by
      have := hG.1.le
      have h2 : (γ g).1 * (γ g).2.1 ≤ 4 * 4 := Nat.mul_le_mul this.1 this.2
      unfold nC
      omega
    have loop : ∀ c, c ≤ nC (γ g) → ∀ m1, TM (γ g) m0 m1 (out (γ g) c) → m1 10 1 = ((out (γ g) c).2.2.1.length : Int) → frT m0 m1 → hd_X7_follow_61 E (k + 3) g (c : Int) m1 γ' t Q := by
      refine upN ?_ ?_
      · intro m1 hTm hs1 hf
        have hT2 : m1 10 2 = (nC (γ g) : Int) := hTm.2.2.2.2.2.2.2.2.2.2.2.2.1.trans (congrArg (fun z : Nat => (z : Int)) (out_len hG))
        have hT3 : m1 10 3 = (nP (γ g) : Int) := hTm.2.2.2.2.2.2.2.2.2.2.2.2.2
        have hs1 : m1 10 1 = (nS (γ g) : Int) := hs1
        have hl : nS (γ g) ≤ nC (γ g) := nS_le (nC (γ g))
        have hnp : nP (γ g) ≤ 48 := by
          have h24 := gn_le _ hG.1.le.1 _ hG.1.le.2
          have h3 := pok_len (out_pok (γ g) (nC (γ g)))
          have h4 := code_len hG (out_clo hG (nC (γ g)) (Nat.le_refl _)).1
          unfold nP aG
          omega
        refine vc_X7_follow_61 hg (by omega) (S_gcells u11 (fun hle => ?_))
        rw [hγ11] at hle ⊢
        refine ⟨by omega, fun c => absurd c (by unfold nC; omega), fun c => ?_⟩
        rw [hs1, hT2]
        refine S_put 65 rfl rfl (by decide) (by omega) (by omega) ?_
        have e1 : up m1 19 (ptn 65 (m1 19) (nS (γ g) : Int) (nC (γ g) : Int)) 10 = m1 10 := rfl
        rw [e1, hs1, hT3]
        refine S_put 65 rfl rfl (by decide) (by omega) (by omega) ?_
        have e2 : up m1 19 (ptn 65 (m1 19) (nS (γ g) : Int) (nC (γ g) : Int)) 24 = m1 24 := rfl
        rw [e2, ptn_in (by omega), ptn_in (by omega), hγ']
        refine hQ _ (TM_TrOK hG hTm hs1 h25) (fun a a1 a2 => ?_)
        rw [up_ne (by omega), up_ne (by omega), hf a a1 a2, f0 a a1 a2]
      · intro c hc ih m1 hTm hs1 hf
        have hA := (out_clo hG c (by omega)).1
        have hl := nS_le (G := γ g) c
        have hout : out (γ g) (c + 1) = if visb (out (γ g) c) c then out (γ g) c else fol (γ g) (out (γ g) c) c := rfl
        have hfl : ((fol (γ g) (out (γ g) c) c).2.2.1.length : Int) = ((out (γ g) c).2.2.1.length : Int) + 1 := by
          unfold fol
          rw [(inn_l (γ g) _ c _).2]
          simp [stt]
        have hvis : visb (out (γ g) c) c = true ↔ m1 15 c ≠ -1 := by
          rw [visb_iff, hTm.1]
          constructor
          · intro hm
            obtain ⟨x, hx1, hx2⟩ := List.mem_map.mp hm
            obtain ⟨y, -, -, hy⟩ := fu_in (i := fun x : Nat × Nat × Nat × Bool => x.2.2.1) (v := fun x => (x.1 : Int)) (c := c) ⟨x, hx1, hx2⟩
            rw [hy]
            omega
          · intro hn
            refine Classical.byContradiction (fun hm => hn ?_)
            rw [fu_out (fun x hx e => hm (List.mem_map.mpr ⟨x, hx, e⟩))]
            exact h15 c (by omega)
        refine vc_X7_follow_61 hg (by omega) (S_gcells u11 (fun hle => ?_))
        rw [hγ11] at hle ⊢
        refine ⟨by omega, fun c1 => S_at 64 rfl rfl rfl (by decide) (by omega) (fun _ => ?_), fun c1 => absurd c1 (by unfold nC at hc; omega)⟩
        rw [atn_in (show c < 64 by omega)]
        refine ⟨fun c2 => ?_, fun c2 => ?_⟩
        · have hvb : ¬ visb (out (γ g) c) c = true := fun z => hvis.mp z c2
          refine S_followFrom hγ11 hA (out_pok _ c) hc (fun z => hvb (visb_iff.mpr z)) (out_beg _ c).symm (by omega) hTm hs1 hf (fun m2 T2 s2 f2 => ?_)
          refine ih m2 ?_ ?_ f2
          · rw [hout, if_neg hvb]
            exact T2
          · rw [hout, if_neg hvb, hfl]
            exact s2
        · have hvb : visb (out (γ g) c) c = true := hvis.mpr c2
          refine ih m1 ?_ ?_ hf
          · rw [hout, if_pos hvb]
            exact hTm
          · rw [hout, if_pos hvb]
            exact hs1
    have := loop 0 (Nat.zero_le _) m0 ⟨rfl, rfl, rfl, rfl, rfl, rfl, rfl, rfl, rfl, rfl, rfl, rfl, by rw [hm0]; rfl, by rw [hm0]; rfl⟩ (by rw [hm0]; rfl) (fun _ _ _ => rfl)
    rw [hm0, hγ'] at this
    exact this
end C0
