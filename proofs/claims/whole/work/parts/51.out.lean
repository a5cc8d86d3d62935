/-! ===== all strands, one after the other ===== -/
/-- the first i below n with p, else n -/
def fst1 (p : Nat → Bool) : Nat → Nat
  | 0 => 0
  | n + 1 => if fst1 p n < n then fst1 p n else if p n then n else n + 1
theorem fst1_le (p : Nat → Bool) : ∀ n, fst1 p n ≤ n
  | 0 => Nat.le_refl 0
  | n + 1 => by
    have := fst1_le p n
    unfold fst1
    split
    · omega
    · split <;> omega
theorem fst1_no (p : Nat → Bool) : ∀ n j, j < fst1 p n → p j = false
  | 0, j, h => absurd h (Nat.not_lt_zero j)
  | n + 1, j, h => by
    have ih := fst1_no p n j
    have hl := fst1_le p n
    unfold fst1 at h
    split at h
    · exact ih h
    · split at h
      · exact ih (by omega)
      · next h1 h2 =>
        by_cases hj : j = n
        · subst hj
          simpa using h2
        · exact ih (by omega)
theorem fst1_yes (p : Nat → Bool) : ∀ n, fst1 p n < n → p (fst1 p n) = true
  | 0, h => absurd h (Nat.not_lt_zero _)
  | n + 1, h => by
    have ih := fst1_yes p n
    unfold fst1 at h ⊢
    split at h
    · next h1 =>
      rw [if_pos h1]
      exact ih h1
    · next h1 =>
      rw [if_neg h1]
      split at h
      · next h2 =>
        rw [if_pos h2]
        exact h2
      · omega
theorem fst1_eq {p : Nat → Bool} {n j : Nat} (hj : j < n) (hy : p j = true) (hn : ∀ i, i < j → p i = false) : fst1 p n = j := by
  rcases Nat.lt_trichotomy (fst1 p n) j with h | h | h
  · have := fst1_yes p n (by omega)
    rw [hn _ h] at this
    cases this
  · exact h
  · have := fst1_no p n j h
    rw [hy] at this
    cases this
theorem fst1_all {p : Nat → Bool} {n : Nat} (hn : ∀ i, i < n → p i = false) : fst1 p n = n := by
  have := fst1_le p n
  rcases Nat.lt_or_ge (fst1 p n) n with h | h
  · have h1 := fst1_yes p n h
    rw [hn _ h] at h1
    cases h1
  · omega
/-- how many corners the strand from c has -/
def len (G : GV) (c : Nat) : Nat := fst1 (fun i => decide ((nxi G (i + 1) (c, true)).1 = c)) (nC G) + 1
theorem len_ok {G : GV} (hG : vG G) {c : Nat} (hc : c < nC G) : 0 < len G c ∧ len G c ≤ nC G ∧ nxi G (len G c) (c, true) = (c, true) ∧ ∀ j, 0 < j → j < len G c → (nxi G j (c, true)).1 ≠ c := by
  obtain ⟨i, hi, he⟩ := nxi_back hG (x := (c, true)) hc
  have h1 : fst1 (fun i => decide ((nxi G (i + 1) (c, true)).1 = c)) (nC G) < nC G := by
    rcases Nat.lt_or_ge (fst1 (fun i => decide ((nxi G (i + 1) (c, true)).1 = c)) (nC G)) (nC G) with h | h
    · exact h
    · have := fst1_no (fun i => decide ((nxi G (i + 1) (c, true)).1 = c)) (nC G) i (by omega)
      simp only [decide_eq_false_iff_not] at this
      exact absurd he this
  have h2 := fst1_yes _ _ h1
  simp only [decide_eq_true_eq] at h2
  have h3 : (nxi G (len G c) (c, true)).1 = c := h2
  refine ⟨Nat.succ_pos _, h1, ?_, fun j hj hl => ?_⟩
  · have := nxi_dis hG (x := (c, true)) hc (i := 0) (j := len G c) (Nat.succ_pos _) h3.symm
    exact this
  · have := fst1_no (fun i => decide ((nxi G (i + 1) (c, true)).1 = c)) (nC G) (j - 1) (by unfold len at hl; omega)
    simp only [decide_eq_false_iff_not] at this
    rw [show j - 1 + 1 = j by omega] at this
    exact this
/-- corners gone through (strand, place, corner, way), passings (number, strand, corner, way), where the strands begin in both -/
abbrev AS : Type := List (Nat × Nat × Nat × Bool) × List (Nat × Nat × Nat × Bool) × List Nat × List Nat
def isC (G : GV) (x : Nat × Bool) : Bool := decide (exk G x = 0 ∨ exk G x = 1)
def nt (G : GV) (A : AS) (i : Nat) (x : Nat × Bool) : AS :=
  (A.1 ++ [(A.2.2.1.length - 1, i, x)], if isC G x then A.2.1 ++ [(A.2.1.length, A.2.2.1.length - 1, x)] else A.2.1, A.2.2.1, A.2.2.2)
def stt (A : AS) : AS := (A.1, A.2.1, A.2.2.1 ++ [A.1.length], A.2.2.2 ++ [A.2.1.length])
def inn (G : GV) (A : AS) (c : Nat) : Nat → AS
  | 0 => A
  | i + 1 => nt G (inn G A c i) i (nxi G i (c, true))
def fol (G : GV) (A : AS) (c : Nat) : AS := inn G (stt A) c (len G c)
def visb (A : AS) (c : Nat) : Bool := A.1.any (fun x => decide (x.2.2.1 = c))
def out (G : GV) : Nat → AS
  | 0 => ([], [], [], [])
  | c + 1 => if visb (out G c) c then out G c else fol G (out G c) c
def cs (A : AS) : List Nat := A.1.map (fun x => x.2.2.1)
theorem visb_iff {A : AS} {c : Nat} : visb A c = true ↔ c ∈ cs A := by
  unfold visb cs
  rw [List.any_eq_true, List.mem_map]
  constructor
  · rintro ⟨x, h1, h2⟩
    exact ⟨x, h1, of_decide_eq_true h2⟩
  · rintro ⟨x, h1, h2⟩
    exact ⟨x, h1, decide_eq_true h2⟩
/-- whole strands -/
def clo (G : GV) (A : AS) : Prop := (cs A).Nodup ∧ (∀ c ∈ cs A, c < nC G) ∧ (∀ x ∈ A.1, ∃ y ∈ A.1, y.2.2 = nx G x.2.2) ∧ (∀ x ∈ A.1, ∃ y ∈ A.1, nx G y.2.2 = x.2.2)
theorem clo_out {G : GV} (hG : vG G) {A : AS} (hA : clo G A) {c : Nat} (hc : c < nC G) (hv : c ∉ cs A) : ∀ i, (nxi G i (c, true)).1 ∉ cs A
  | 0 => hv
  | i + 1 => fun hm => by
    have ih := clo_out hG hA hc hv i
    have hy := nxi_lt hG (x := (c, true)) hc i
    obtain ⟨x, hx, he⟩ := List.mem_map.mp hm
    have he : x.2.2.1 = (nx G (nxi G i (c, true))).1 := he
    have h2 : x.2.2 = nx G (nxi G i (c, true)) ∨ x.2.2 = rho (nx G (nxi G i (c, true))) := by
      by_cases hb : x.2.2.2 = (nx G (nxi G i (c, true))).2
      · exact Or.inl (Prod.ext he hb)
      · refine Or.inr (Prod.ext he ?_)
        show x.2.2.2 = !(nx G (nxi G i (c, true))).2
        cases h3 : x.2.2.2 <;> cases h4 : (nx G (nxi G i (c, true))).2 <;> simp [h3, h4] at hb ⊢
    rcases h2 with h2 | h2
    · obtain ⟨z, hz, hz2⟩ := hA.2.2.2 x hx
      rw [h2] at hz2
      have hzl : z.2.2.1 < nC G := hA.2.1 _ (List.mem_map_of_mem hz)
      have := nx_inj hG hzl hy hz2
      exact ih (this ▸ List.mem_map_of_mem hz)
    · obtain ⟨z, hz, hz2⟩ := hA.2.2.1 x hx
      rw [h2, (nx_ok hG hy).2.2.1] at hz2
      have : z.2.2.1 = (nxi G i (c, true)).1 := by rw [hz2]; rfl
      exact ih (this ▸ List.mem_map_of_mem hz)
theorem inn_l (G : GV) (A : AS) (c : Nat) : ∀ i, (inn G A c i).1 = A.1 ++ (List.range i).map (fun j => (A.2.2.1.length - 1, j, nxi G j (c, true))) ∧ (inn G A c i).2.2 = A.2.2
  | 0 => by simp [inn]
  | i + 1 => by
    obtain ⟨h1, h2⟩ := inn_l G A c i
    constructor
    · show (inn G A c i).1 ++ [((inn G A c i).2.2.1.length - 1, i, nxi G i (c, true))] = _
      rw [h1, h2, List.range_succ, List.map_append, List.append_assoc]
      rfl
    · exact h2
theorem inn_cs (G : GV) (A : AS) (c i : Nat) : cs (inn G A c i) = cs A ++ (List.range i).map (fun j => (nxi G j (c, true)).1) := by
  unfold cs
  rw [(inn_l G A c i).1, List.map_append, List.map_map]
  rfl
/-- on the way round no corner is met again -/
theorem inn_new {G : GV} (hG : vG G) {A : AS} (hA : clo G A) {c : Nat} (hc : c < nC G) (hv : c ∉ cs A) {i : Nat} (hi : i < len G c) : (nxi G i (c, true)).1 ∉ cs (inn G (stt A) c i) := by
  rw [inn_cs]
  intro hm
  rcases List.mem_append.mp hm with hm | hm
  · exact clo_out hG hA hc hv i hm
  · obtain ⟨j, hj, he⟩ := List.mem_map.mp hm
    have hj := List.mem_range.mp hj
    have h1 := nxi_dis hG (x := (c, true)) hc hj he
    exact (len_ok hG hc).2.2.2 (i - j) (by omega) (by omega) (by rw [h1])
theorem inn_nodup {G : GV} (hG : vG G) {A : AS} (hA : clo G A) {c : Nat} (hc : c < nC G) (hv : c ∉ cs A) : ∀ i, i ≤ len G c → (cs (inn G (stt A) c i)).Nodup ∧ ∀ c' ∈ cs (inn G (stt A) c i), c' < nC G
  | 0, _ => ⟨hA.1, hA.2.1⟩
  | i + 1, hi => by
    obtain ⟨h1, h2⟩ := inn_nodup hG hA hc hv i (by omega)
    have h3 := inn_new hG hA hc hv (i := i) (by omega)
    have h4 : cs (inn G (stt A) c (i + 1)) = cs (inn G (stt A) c i) ++ [(nxi G i (c, true)).1] := by
      rw [inn_cs, inn_cs, List.range_succ, List.map_append, ← List.append_assoc]
      rfl
    rw [h4]
    constructor
    · rw [List.nodup_append]
      refine ⟨h1, by simp, fun a ha b hb hab => ?_⟩
      rw [List.mem_singleton] at hb
      subst hb hab
      exact h3 ha
    · intro c' hc'
      rcases List.mem_append.mp hc' with h | h
      · exact h2 c' h
      · rw [List.mem_singleton] at h
        subst h
        exact nxi_lt hG hc i
theorem fol_clo {G : GV} (hG : vG G) {A : AS} (hA : clo G A) {c : Nat} (hc : c < nC G) (hv : c ∉ cs A) : clo G (fol G A c) := by
  obtain ⟨h1, h2⟩ := inn_nodup hG hA hc hv (len G c) (Nat.le_refl _)
  obtain ⟨l0, l1, l2, l3⟩ := len_ok hG hc
  have hl : (fol G A c).1 = A.1 ++ (List.range (len G c)).map (fun j => ((stt A).2.2.1.length - 1, j, nxi G j (c, true))) := (inn_l G (stt A) c (len G c)).1
  have hin : ∀ j, j < len G c → ∃ y ∈ (fol G A c).1, y.2.2 = nxi G j (c, true) := fun j hj => by
    rw [hl]
    exact ⟨_, List.mem_append_right _ (List.mem_map_of_mem (List.mem_range.mpr hj)), rfl⟩
  refine ⟨h1, h2, fun x hx => ?_, fun x hx => ?_⟩
  · rw [hl] at hx
    rcases List.mem_append.mp hx with hx | hx
    · obtain ⟨y, hy, he⟩ := hA.2.2.1 x hx
      exact ⟨y, by rw [hl]; exact List.mem_append_left _ hy, he⟩
    · obtain ⟨j, hj, rfl⟩ := List.mem_map.mp hx
      have hj := List.mem_range.mp hj
      by_cases h : j + 1 = len G c
      · obtain ⟨y, hy, he⟩ := hin 0 l0
        refine ⟨y, hy, ?_⟩
        rw [he]
        show (c, true) = nxi G (j + 1) (c, true)
        rw [h, l2]
      · exact hin (j + 1) (by omega)
  · rw [hl] at hx
    rcases List.mem_append.mp hx with hx | hx
    · obtain ⟨y, hy, he⟩ := hA.2.2.2 x hx
      exact ⟨y, by rw [hl]; exact List.mem_append_left _ hy, he⟩
    · obtain ⟨j, hj, rfl⟩ := List.mem_map.mp hx
      have hj := List.mem_range.mp hj
      rcases Nat.eq_zero_or_pos j with h | h
      · subst h
        obtain ⟨y, hy, he⟩ := hin (len G c - 1) (by omega)
        refine ⟨y, hy, ?_⟩
        rw [he]
        show nxi G (len G c - 1 + 1) (c, true) = (c, true)
        rw [show len G c - 1 + 1 = len G c by omega, l2]
      · obtain ⟨y, hy, he⟩ := hin (j - 1) (by omega)
        refine ⟨y, hy, ?_⟩
        rw [he]
        show nxi G (j - 1 + 1) (c, true) = nxi G j (c, true)
        rw [show j - 1 + 1 = j by omega]
theorem out_clo {G : GV} (hG : vG G) : ∀ c, c ≤ nC G → clo G (out G c) ∧ ∀ c', c' < c → c' ∈ cs (out G c)
  | 0, _ => ⟨⟨List.nodup_nil, fun c h => absurd h List.not_mem_nil, fun x h => absurd h List.not_mem_nil, fun x h => absurd h List.not_mem_nil⟩, fun c' h => absurd h (Nat.not_lt_zero c')⟩
  | c + 1, hc => by
    obtain ⟨h1, h2⟩ := out_clo hG c (by omega)
    unfold out
    split
    · next hv =>
      refine ⟨h1, fun c' hc' => ?_⟩
      by_cases h : c' = c
      · subst h
        exact visb_iff.mp hv
      · exact h2 c' (by omega)
    · next hv =>
      have hv : c ∉ cs (out G c) := fun h => hv (visb_iff.mpr h)
      refine ⟨fol_clo hG h1 (by omega) hv, fun c' hc' => ?_⟩
      have hcs : cs (fol G (out G c) c) = _ := inn_cs G (stt (out G c)) c (len G c)
      rw [hcs]
      by_cases h : c' = c
      · subst h
        exact List.mem_append_right _ (List.mem_map.mpr ⟨0, List.mem_range.mpr (len_ok hG (by omega)).1, rfl⟩)
      · exact List.mem_append_left _ (h2 c' (by omega))
