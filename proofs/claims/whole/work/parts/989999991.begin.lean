/-! ===== the law's beginning: both objects are made ===== -/
def m00 : MM := fun a => if a = 99 then up (fun _ => 0) 3 (-1) else if a = 158 then up (fun _ => 0) 34 (-1) else fun _ => 0
def γ00 : GM := fun _ => (0, 0, fun _ => 0)
def a00 : AST := (fun _ => (0, 0, fun _ => 0), [], [], (0, -1), [])
/-- the cell at a -/
def Zc (a : Nat) : am_C :=
  if a = 1 then cR (.object "PegStrings$Grid") 3 (va_up (va_up (va_up (fun _ => none) 0 (some 146)) 1 (some 150)) 2 (some 154))
  else if a = 105 then cR (.object "PegStrings$Grid") 10 (va_up (va_up (va_up (va_up (va_up (va_up (va_up (va_up (va_up (va_up (fun _ => none) 0 (some 106)) 1 (some 110)) 2 (some 114)) 3 (some 118)) 4 (some 122)) 5 (some 126)) 6 (some 130)) 7 (some 134)) 8 (some 138)) 9 (some 142))
  else if ncb a = true then cellOf (lay a) (m00 a)
  else if gib a = true then .inr (3, [.int 0, .int 0, .int 0, .ref (a + 1), .ref (a + 2), .ref (a + 3)])
  else if gib (a - 3) = true then zI 32 else zI 24
def h00 : am_H := nu8 0 ++ nu9 158
set_option maxRecDepth 100000 in
theorem h00_Z : h00 = (List.range 195).map Zc := rfl
theorem h00_at {a : Nat} (h : a < 195) : h00[a]? = some (Zc a) := by
  rw [h00_Z, List.getElem?_map, List.getElem?_range h]
  rfl
theorem va3 : va_up (va_up (va_up (fun _ => none) 0 (some 146)) 1 (some 150)) 2 (some 154) = fun i => if i < 3 then some (146 + 4 * i) else none := by
  funext i
  unfold va_up
  by_cases h : i < 3
  · rw [if_pos h]
    have : i = 0 ∨ i = 1 ∨ i = 2 := by omega
    rcases this with rfl | rfl | rfl <;> rfl
  · rw [if_neg h]
    repeat rw [if_neg (by omega)]
theorem va10 : va_up (va_up (va_up (va_up (va_up (va_up (va_up (va_up (va_up (va_up (fun _ => none) 0 (some 106)) 1 (some 110)) 2 (some 114)) 3 (some 118)) 4 (some 122)) 5 (some 126)) 6 (some 130)) 7 (some 134)) 8 (some 138)) 9 (some 142) = fun i => if i < 10 then some (106 + 4 * i) else none := by
  funext i
  unfold va_up
  by_cases h : i < 10
  · rw [if_pos h]
    have : i = 0 ∨ i = 1 ∨ i = 2 ∨ i = 3 ∨ i = 4 ∨ i = 5 ∨ i = 6 ∨ i = 7 ∨ i = 8 ∨ i = 9 := by omega
    rcases this with rfl | rfl | rfl | rfl | rfl | rfl | rfl | rfl | rfl | rfl <;> rfl
  · rw [if_neg h]
    repeat rw [if_neg (by omega)]
theorem Zc_n {a : Nat} (h : ncb a = true) : Zc a = cellOf (lay a) (m00 a) := by
  unfold Zc
  by_cases h1 : a = 1
  · rw [if_pos h1, h1, va3]
    rfl
  · rw [if_neg h1]
    by_cases h2 : a = 105
    · rw [if_pos h2, h2, va10]
      rfl
    · rw [if_neg h2, if_pos h]
theorem nc_b {a : Nat} (h : ncel a) : ncb a = true := by
  have key : ∀ a, a < 195 → (ncb a = true ∨ ¬ (a < 2 ∨ a = 10 ∨ (15 ≤ a ∧ a ≤ 28) ∨ (33 ≤ a ∧ a ≤ 105) ∨ (158 ≤ a ∧ a ≤ 194))) := by decide +kernel
  rcases key a (by unfold ncel at h; omega) with q | q
  · exact q
  · exact absurd h q
theorem ST00 : ST h00 m00 γ00 [] := by
  have hl : h00.length = 195 := by rw [h00_Z, List.length_map, List.length_range]
  refine ⟨fun a ha => ?_, fun g hg => ?_, ⟨hl, fun b hb => ?_⟩, fun a j => ?_⟩
  · rw [h00_at (by unfold ncel at ha; omega), Zc_n (nc_b ha)]
  · have hgl : g < 155 := by unfold isg at hg; omega
    refine ⟨Or.inl ⟨rfl, rfl⟩, fun e he => absurd he (Nat.not_lt_zero e), fun _ => 0, fun _ => 0, fun _ => 0, ?_, fun e he => absurd he (Nat.not_lt_zero e), fun s hs => absurd hs (Nat.not_lt_zero s)⟩
    have hc : h00[g]? = some (.inr (3, [.int 0, .int 0, .int 0, .ref (g + 1), .ref (g + 2), .ref (g + 3)])) ∧ h00[g + 1]? = some (zI 24) ∧ h00[g + 2]? = some (zI 24) ∧ h00[g + 3]? = some (zI 32) := by
      have : g = 2 ∨ g = 6 ∨ g = 11 ∨ g = 29 ∨ g = 106 ∨ g = 110 ∨ g = 114 ∨ g = 118 ∨ g = 122 ∨ g = 126 ∨ g = 130 ∨ g = 134 ∨ g = 138 ∨ g = 142 ∨ g = 146 ∨ g = 150 ∨ g = 154 := by unfold isg at hg; omega
      rw [h00_at (by omega), h00_at (by omega), h00_at (by omega), h00_at (by omega)]
      rcases this with rfl | rfl | rfl | rfl | rfl | rfl | rfl | rfl | rfl | rfl | rfl | rfl | rfl | rfl | rfl | rfl | rfl <;> exact ⟨rfl, rfl, rfl, rfl⟩
    exact ⟨hc.1, hc.2.1, hc.2.2.1, hc.2.2.2, by omega⟩
  · rw [List.getElem?_eq_none (by omega)]
    rfl
  · have : m00 a j = 0 ∨ m00 a j = -1 := by
      unfold m00
      split
      · unfold up
        split
        · exact Or.inr rfl
        · exact Or.inl rfl
      · split
        · unfold up
          split
          · exact Or.inr rfl
          · exact Or.inl rfl
        · exact Or.inl rfl
    omega
theorem v00 : vG ((0, 0, fun _ => 0) : GV) ∧ nG ((0, 0, fun _ => 0) : GV) := ⟨⟨Or.inl ⟨rfl, rfl⟩, fun e he => absurd he (Nat.not_lt_zero e)⟩, fun e _ => rfl⟩
theorem CI00 : CI m00 γ00 a00 := by
  refine ⟨fun s hs => ⟨rfl, v00⟩, ⟨v00.2, ⟨fun c hc => absurd hc (Nat.not_lt_zero c), fun s hs => ?_, fun j hj => absurd hj (Nat.not_lt_zero j), fun e he => absurd he (Nat.not_lt_zero e), rfl⟩⟩, ⟨v00.2, fun q => absurd q (Nat.lt_irrefl 0)⟩, ⟨rfl, Nat.zero_le _, fun i h => absurd h (Nat.not_lt_zero i), rfl, rfl⟩, ⟨rfl, Nat.zero_le _, fun i h => absurd h (Nat.not_lt_zero i)⟩, ⟨rfl, Nat.zero_le _, 0, rfl, by decide, fun i h => absurd h (Nat.not_lt_zero i)⟩⟩
  have : s = 0 := Nat.le_zero.mp hs
  subst this
  exact ⟨rfl, rfl⟩
theorem RI00 : RI m00 a00 := ⟨fun s hs => ⟨rfl, rfl, fun e he => rfl⟩, ⟨rfl, Nat.zero_le _, fun i h => absurd h (Nat.not_lt_zero i)⟩, ⟨rfl, fun i h => absurd h (Nat.not_lt_zero i), rfl, rfl⟩, ⟨rfl, fun i h => absurd h (Nat.not_lt_zero i)⟩, fun s hs => v00, Nat.zero_le _, Nat.zero_le _⟩
/-- a state's size -/
theorem sz_cell (q : Nat × Nat × List Nat) (F : Nat → Int) (h1 : q.2.1 ≤ 2000) (h2 : q.2.2.length ≤ 2000) : am_sz1 (cellOf q F) ≤ 2000 := by
  have key : ∀ (l : List Nat) (k : Nat), (fsOf l F k).length = l.length := by
    intro l
    induction l with
    | nil => intro k; rfl
    | cons x y ih =>
      intro k
      cases x with
      | zero => exact congrArg (· + 1) (ih (k + 1))
      | succ n => exact congrArg (· + 1) (ih (k + 1))
  unfold cellOf
  split
  · exact h1
  · exact h1
  · exact h1
  · exact h1
  · show (fsOf q.2.2 F 0).length ≤ 2000
    rw [key]
    exact h2
  · exact h1
  · exact h1
  · exact h1
theorem lay_sz : ∀ a, a < 195 → (lay a).2.1 ≤ 2000 ∧ (lay a).2.2.length ≤ 2000 := by decide +kernel
theorem sz_sum : ∀ (h : am_H), (∀ c ∈ h, am_sz1 c ≤ 2000) → am_sz h ≤ 2000 * h.length := by
  intro h
  induction h with
  | nil => intro _; exact Nat.le_refl 0
  | cons x y ih =>
    intro hc
    have h1 := hc x List.mem_cons_self
    have h2 := ih (fun c z => hc c (List.mem_cons_of_mem _ z))
    have h3 : am_sz (x :: y) = am_sz1 x + am_sz y := rfl
    rw [h3, List.length_cons]
    omega
theorem ST.size {h : am_H} {m : MM} {γ : GM} {t : am_H} (S : ST h m γ t) (hT : TB 3072 t) : h.length ≤ 600000 ∧ am_sz h ≤ 7302250 := by
  have hl := S.2.2.1.1
  have htl := hT.1
  have hs : am_sz h ≤ 2000 * h.length := by
    refine sz_sum h (fun c hc => ?_)
    obtain ⟨i, hi, rfl⟩ := List.getElem_of_mem hc
    have hx : h[i]? = some h[i] := List.getElem?_eq_getElem hi
    generalize h[i] = x at hx
    by_cases h1 : 195 ≤ i
    · rw [S.2.2.1.2 i h1] at hx
      obtain ⟨j, F, rfl, hj⟩ := hT.2 x (List.mem_of_getElem? hx)
      show j ≤ 2000
      omega
    · by_cases h2 : ncel i
      · rw [S.1 i h2] at hx
        cases hx
        have := lay_sz i (by omega)
        exact sz_cell _ _ this.1 this.2
      · have hg : ∃ g, isg g ∧ g ≤ i ∧ i ≤ g + 3 := by
          unfold ncel at h2
          unfold isg
          by_cases c1 : i < 6
          · exact ⟨2, by omega, by omega, by omega⟩
          · by_cases c2 : i < 10
            · exact ⟨6, by omega, by omega, by omega⟩
            · by_cases c3 : i < 15
              · exact ⟨11, by omega, by omega, by omega⟩
              · by_cases c4 : i < 33
                · exact ⟨29, by omega, by omega, by omega⟩
                · exact ⟨106 + 4 * ((i - 106) / 4), by omega, by omega, by omega⟩
        obtain ⟨g, hg, hg1, hg2⟩ := hg
        obtain ⟨g1, g2, K, SS, B, ⟨g3, g4, g5, g6, g7⟩, g8⟩ := S.2.1 g hg
        have : i = g ∨ i = g + 1 ∨ i = g + 2 ∨ i = g + 3 := by omega
        rcases this with rfl | rfl | rfl | rfl
        · rw [g3] at hx; cases hx; exact (by decide : 6 ≤ 2000)
        · rw [g4] at hx; cases hx; exact (by decide : 24 ≤ 2000)
        · rw [g5] at hx; cases hx; exact (by decide : 24 ≤ 2000)
        · rw [g6] at hx; cases hx; exact (by decide : 32 ≤ 2000)
  omega
set_option maxRecDepth 100000 in
theorem am_pure2 {L : Nat} (hL : L ≤ 3072) (xs : Nat → Int32) (v : Value) (hv : v = .null ∨ v = .ref 1003000) : ∃ n h', am_exec ((L, xs), v) n 40 322 0 (am_entry [.ref 1002000] 4) [] [] = some (some (.int 1), h') ∧ h'.length ≤ 600000 ∧ am_sz h' ≤ 7302250 := by
  have hE : EV ((L, xs), v) := hv
  have key : wp ((L, xs), v) 40 322 0 (am_entry [.ref 1002000] 4) [] ([] ++ []) (fun r h' => r = some (.int 1) ∧ h'.length ≤ 600000 ∧ am_sz h' ≤ 7302250) := by
    refine wp_noP (ql := 0) (q' := [.inr (8, am_dflt 8)]) rfl rfl rfl rfl (by decide) ?_
    refine wp_g (n := 1) (pc' := 4) (L' := [some (.ref 1002000), none, none, none]) (st' := [.ref (([] : am_H).length + 0), .ref 0]) rfl ?_
    refine wp_ctP (q0 := []) (n0 := 0) (q' := nu8 0) rfl rfl rfl rfl (Nat.le_of_ble_eq_true rfl) (by decide) (by decide) (ct_8 (k := 37)) rfl rfl rfl (by decide) ?_
    show wp ((L, xs), v) 40 322 7 _ _ (nu8 0) _
    have e8 : (nu8 0).length = 158 := rfl
    refine wp_g (n := 1) (pc' := 8) (L' := [some (.ref 1002000), some (.ref 0), none, none]) (st' := []) rfl ?_
    rw [show nu8 0 = nu8 0 ++ [] from (List.append_nil _).symm]
    refine wp_noP (ql := 0) (q' := [.inr (9, am_dflt 9)]) rfl rfl rfl rfl (by rw [e8]; decide) ?_
    rw [e8]
    refine wp_g (n := 1) (pc' := 12) (L' := [some (.ref 1002000), some (.ref 0), none, none]) (st' := [.ref ((nu8 0).length + 0), .ref 158]) rfl ?_
    refine wp_ctP (q0 := []) (n0 := 0) (q' := nu9 158) rfl rfl rfl rfl (Nat.le_of_ble_eq_true rfl) (by decide) (by decide) ct_9 rfl rfl rfl (by rw [e8]; decide) ?_
    refine wp_g (n := 3) (pc' := 18) (L' := [some (.ref 1002000), some (.ref 0), some (.ref 158), some (.int (iI 0))]) (st' := []) rfl ?_
    have hd := law_loop (Q := fun v m γ t => v = 1 ∧ TB 3072 t) hE hL (fun m γ t h => ⟨rfl, h⟩) 512 0 m00 γ00 [] a00 (by decide) (by decide) (by show (L : Int) < _; omega) CI00 RI00 ⟨by decide, fun c hc => absurd hc List.not_mem_nil⟩
    refine (hd h00 ST00).mono (fun r h' z => ?_)
    obtain ⟨v1, m1, γ1, t1, e, -, S, e2, hT⟩ := z
    refine ⟨?_, S.size hT⟩
    rw [e, e2]
    rfl
  obtain ⟨r, h', ⟨rfl, h1, h2⟩, hx⟩ := key
  obtain ⟨n, hn⟩ := hx 40 (Nat.le_refl 40)
  exact ⟨n, h', hn, h1, h2⟩
