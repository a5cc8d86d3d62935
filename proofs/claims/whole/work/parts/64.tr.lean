/-! ===== what a grid's strands are, as values; Trace's rows hold them ===== -/
def aG (G : GV) : AS := out G (nC G)
def nS (G : GV) : Nat := (aG G).2.2.1.length
def nP (G : GV) : Nat := (aG G).2.1.length
def tS (G : GV) : Nat → Int := fu (fun x => x.2.2.1) (fun x => (x.1 : Int)) (fun _ => 0) (aG G).1
def tP (G : GV) : Nat → Int := fu (fun x => x.2.2.1) (fun x => (x.2.1 : Int)) (fun _ => 0) (aG G).1
def tW (G : GV) : Nat → Int := fu (fun x => x.2.2.1) (fun x => pm x.2.2.2) (fun _ => 0) (aG G).1
def tO (G : GV) : Nat → Int := lsF (fun x => (x.2.2.1 : Int)) (aG G).1 (fun _ => 0)
def tB (G : GV) : Nat → Int := lsF (fun n : Nat => (n : Int)) ((aG G).2.2.1 ++ [nC G]) (fun _ => 0)
def pB (G : GV) : Nat → Int := lsF (fun n : Nat => (n : Int)) ((aG G).2.2.2 ++ [nP G]) (fun _ => 0)
def pEd (G : GV) : Nat → Int := lsF (fun y => (pE G y.2.2 : Int)) (aG G).2.1 (fun _ => 0)
def pSt (G : GV) : Nat → Int := lsF (fun y => (y.2.1 : Int)) (aG G).2.1 (fun _ => 0)
def pDx (G : GV) : Nat → Int := lsF (fun y => dX y.2.2.1 y.2.2.2) (aG G).2.1 (fun _ => 0)
def pDy (G : GV) : Nat → Int := lsF (fun y => dY y.2.2.1 y.2.2.2) (aG G).2.1 (fun _ => 0)
def pOv (G : GV) : Nat → Int := lsF (fun y => if pO G y.2.2 then 1 else 0) (aG G).2.1 (fun _ => 0)
def oP (G : GV) : Nat → Int := fu (fun y => pE G y.2.2) (fun y => (y.1 : Int)) (fun _ => -1) ((aG G).2.1.filter (fun y => pO G y.2.2))
def uP (G : GV) : Nat → Int := fu (fun y => pE G y.2.2) (fun y => (y.1 : Int)) (fun _ => -1) ((aG G).2.1.filter (fun y => !pO G y.2.2))
/-- Trace's rows are those of G -/
def TrOK (m : Nat → Nat → Int) (G : GV) : Prop :=
  (∀ c, c < nC G → m 15 c = tS G c ∧ m 16 c = tP G c ∧ m 17 c = tW G c ∧ m 18 c = tO G c) ∧
  (∀ s, s ≤ nS G → m 19 s = tB G s ∧ m 24 s = pB G s) ∧
  (∀ j, j < nP G → m 20 j = pEd G j ∧ m 21 j = pSt G j ∧ m 22 j = pDx G j ∧ m 23 j = pDy G j) ∧
  (∀ e, e < gn G.1 G.2.1 → m 25 e = oP G e ∧ m 26 e = uP G e) ∧
  m 10 1 = (nS G : Int)
theorem fu_base {α : Type} {i : α → Nat} {v : α → Int} {c : Nat} : ∀ {l : List α} {F F' : Nat → Int}, F c = F' c → fu i v F l c = fu i v F' l c
  | [], F, F', h => h
  | a :: r, F, F', h => by
    show fu i v (up F (i a) (v a)) r c = fu i v (up F' (i a) (v a)) r c
    refine fu_base ?_
    unfold up
    split
    · rfl
    · exact h
theorem lsF_base {α : Type} {f : α → Int} {l : List α} {F F' : Nat → Int} {j : Nat} (h : j < l.length) : lsF f l F j = lsF f l F' j := by
  unfold lsF
  rw [List.getElem?_eq_getElem h]
theorem nodup_sub {α : Type} : ∀ {l1 l2 : List α}, l1.Nodup → (∀ x ∈ l1, x ∈ l2) → l1.length ≤ l2.length
  | [], l2, _, _ => Nat.zero_le _
  | a :: r, l2, hn, hs => by
    obtain ⟨s, t, rfl⟩ := List.append_of_mem (hs a List.mem_cons_self)
    have h1 := nodup_sub (l1 := r) (l2 := s ++ t) (List.nodup_cons.mp hn).2 (fun x hx => by
      have h2 := hs x (List.mem_cons_of_mem _ hx)
      have h3 : x ≠ a := fun e => (List.nodup_cons.mp hn).1 (e ▸ hx)
      simp only [List.mem_append, List.mem_cons] at h2 ⊢
      rcases h2 with h2 | h2 | h2
      · exact Or.inl h2
      · exact absurd h2 h3
      · exact Or.inr h2)
    simp only [List.length_append, List.length_cons] at h1 ⊢
    omega
theorem out_all {G : GV} (hG : vG G) {c : Nat} (hc : c < nC G) : ∃ x ∈ (aG G).1, x.2.2.1 = c := by
  have := (out_clo hG (nC G) (Nat.le_refl _)).2 c hc
  unfold cs at this
  obtain ⟨x, h1, h2⟩ := List.mem_map.mp this
  exact ⟨x, h1, h2⟩
theorem out_len {G : GV} (hG : vG G) : (aG G).1.length = nC G := by
  have h1 := out_clo hG (nC G) (Nat.le_refl _)
  have h2 := nodup_le (nC G) (cs (out G (nC G))) h1.1.1 h1.1.2.1
  have h3 : (List.range (nC G)).length ≤ (cs (out G (nC G))).length := by
    refine nodup_sub List.nodup_range (fun x hx => h1.2 x (List.mem_range.mp hx))
  rw [List.length_range] at h3
  have h4 : (cs (out G (nC G))).length = (aG G).1.length := by unfold cs aG; rw [List.length_map]
  omega
/-- lists of begins are as long as each other -/
theorem out_beg (G : GV) : ∀ c, (out G c).2.2.1.length = (out G c).2.2.2.length
  | 0 => rfl
  | c + 1 => by
    have ih := out_beg G c
    show (if visb (out G c) c then out G c else fol G (out G c) c).2.2.1.length = (if visb (out G c) c then out G c else fol G (out G c) c).2.2.2.length
    split
    · exact ih
    · unfold fol
      rw [(inn_l G _ c _).2]
      simp only [stt, List.length_append, ih]
      rfl
theorem nS_le {G : GV} : ∀ c, (out G c).2.2.1.length ≤ c
  | 0 => Nat.le_refl 0
  | c + 1 => by
    have ih := @nS_le G c
    show (if visb (out G c) c then out G c else fol G (out G c) c).2.2.1.length ≤ c + 1
    split
    · omega
    · unfold fol
      rw [(inn_l G _ c _).2]
      simp only [stt, List.length_append, List.length_singleton]
      omega
theorem TM_TrOK {G : GV} (hG : vG G) {m0 m : Nat → Nat → Int} (h : TM G m0 m (aG G)) (hs : m 10 1 = (nS G : Int)) (h25 : ∀ e, e < gn G.1 G.2.1 → m0 25 e = -1 ∧ m0 26 e = -1) : TrOK (up (up m 19 (up (m 19) (nS G) (nC G : Int))) 24 (up (m 24) (nS G) (nP G : Int))) G := by
  obtain ⟨h15, h16, h17, h18, h19, h20, h21, h22, h23, h24, h25', h26', h2, h3⟩ := h
  refine ⟨fun c hc => ?_, fun s hs => ?_, fun j hj => ?_, fun e he => ?_, hs⟩
  · obtain ⟨x, hx1, hx2⟩ := out_all hG hc
    have q := fun (v : Nat × Nat × Nat × Bool → Int) => fu_in (i := fun x : Nat × Nat × Nat × Bool => x.2.2.1) (v := v) (c := c) ⟨x, hx1, hx2⟩
    refine ⟨?_, ?_, ?_, ?_⟩
    · obtain ⟨y, -, -, hy⟩ := q (fun x => (x.1 : Int))
      show m 15 c = _
      rw [h15, hy]
      exact (hy _).symm
    · obtain ⟨y, -, -, hy⟩ := q (fun x => (x.2.1 : Int))
      show m 16 c = _
      rw [h16, hy]
      exact (hy _).symm
    · obtain ⟨y, -, -, hy⟩ := q (fun x => pm x.2.2.2)
      show m 17 c = _
      rw [h17, hy]
      exact (hy _).symm
    · show m 18 c = _
      rw [h18]
      exact lsF_base (by rw [out_len hG]; exact hc)
  · constructor
    · show up (m 19) (nS G) (nC G : Int) s = _
      unfold tB
      rw [lsF_app]
      show up (m 19) (nS G) (nC G : Int) s = up _ (nS G) (nC G : Int) s
      unfold up
      split
      · rfl
      · rw [h19]
        exact lsF_base (by unfold nS at *; omega)
    · have hb := out_beg G (nC G)
      show up (m 24) (nS G) (nP G : Int) s = _
      unfold pB
      rw [lsF_app]
      have hb : (aG G).2.2.2.length = nS G := hb.symm
      rw [hb]
      unfold up
      split
      · rfl
      · rw [h24]
        exact lsF_base (by omega)
  · refine ⟨?_, ?_, ?_, ?_⟩
    · show m 20 j = _
      rw [h20]
      exact lsF_base hj
    · show m 21 j = _
      rw [h21]
      exact lsF_base hj
    · show m 22 j = _
      rw [h22]
      exact lsF_base hj
    · show m 23 j = _
      rw [h23]
      exact lsF_base hj
  · refine ⟨?_, ?_⟩
    · show m 25 e = _
      rw [h25']
      exact fu_base (h25 e he).1
    · show m 26 e = _
      rw [h26']
      exact fu_base (h25 e he).2
