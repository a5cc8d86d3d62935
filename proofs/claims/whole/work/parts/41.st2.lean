def ncb (a : Nat) : Bool := Nat.ble a 1 || Nat.beq a 10 || (Nat.ble 15 a && Nat.ble a 28) || (Nat.ble 33 a && Nat.ble a 105) || (Nat.ble 158 a && Nat.ble a 194)
theorem nc {a : Nat} (h : ncb a = true) : ncel a := by
  unfold ncb at h
  simp only [Bool.or_eq_true, Bool.and_eq_true, Nat.ble_eq, Nat.beq_eq] at h
  unfold ncel
  omega
def lcb (a : Nat) : Bool := Nat.beq a 50 || (Nat.ble 83 a && Nat.ble a 98) || (Nat.ble 185 a && Nat.ble a 187) || Nat.beq a 189
theorem lcb_iff {a : Nat} : lcb a = true ↔ lcel a := by
  unfold lcb lcel
  simp only [Bool.or_eq_true, Bool.and_eq_true, Nat.ble_eq, Nat.beq_eq]
  omega
theorem lc {a : Nat} (h : lcb a = true) : lcel a := lcb_iff.mp h
theorem nl {a : Nat} (h : lcb a = false) : ¬ lcel a := fun q => by
  rw [lcb_iff.mpr q] at h
  cases h
def gib (g : Nat) : Bool := Nat.beq g 2 || Nat.beq g 6 || Nat.beq g 11 || Nat.beq g 29 || (Nat.ble 106 g && Nat.ble g 154 && Nat.beq (g % 4) 2)
theorem gi {g : Nat} (h : gib g = true) : isg g := by
  unfold gib at h
  simp only [Bool.or_eq_true, Bool.and_eq_true, Nat.ble_eq, Nat.beq_eq] at h
  unfold isg
  omega
theorem atn_rgx {n : Nat} {F : Nat → Int} {lo hi : Int} (hF : ∀ j, lo ≤ F j ∧ F j < hi) (h1 : lo ≤ -1) (h2 : -1 < hi) (i : Int) : lo ≤ atn n F i ∧ atn n F i < hi := by
  unfold atn
  split
  · exact hF _
  · omega
section ST2
variable {E : am_E} {k M pc : Nat} {L L' : am_L} {st r : List Value} {h h1 : am_H} {m : Nat → Nat → Int} {γ : Nat → Nat × Nat × (Nat → Int)} {t : am_H} {Q : Option Value → am_H → Prop}
theorem ST.gq (S : ST h m γ t) {g R C : Nat} {kd : Nat → Int} (hγ : γ g = (R, C, kd)) (hg : isg g) : GG h g R C kd := by
  have := S.gg g hg
  rw [hγ] at this
  exact this
theorem ST.col (S : ST h m γ t) {i : Nat} (hi : i < 24) : h[53 + i]? = some (cI 40 (m (53 + i))) := by
  have h1 := S.1 (53 + i) (by unfold ncel; omega)
  have h2 : ∀ i, i < 24 → lay (53 + i) = (0, 40, []) := by decide
  rw [h2 i hi] at h1
  exact h1
theorem ST.tal (S : ST h m γ t) {i : Nat} (hi : i < 13) : h[37 + i]? = some (cI 17 (m (37 + i))) := by
  have h1 := S.1 (37 + i) (by unfold ncel; omega)
  have h2 : ∀ i, i < 13 → lay (37 + i) = (0, 17, []) := by decide
  rw [h2 i hi] at h1
  exact h1
theorem ST.frw (S : ST h m γ t) {i : Nat} (hi : i < 16) : h[83 + i]? = some (cL 16 (m (83 + i))) := by
  have h1 := S.1 (83 + i) (by unfold ncel; omega)
  have h2 : ∀ i, i < 16 → lay (83 + i) = (3, 16, []) := by decide
  rw [h2 i hi] at h1
  exact h1
theorem m_fillx_l {a n : Nat} {v : Int} {F : Nat → Int} (ha : a < 1000000) (hn : n ≤ 100000) : ∀ (m i : Nat) (h : am_H), n - i = m → i ≤ n → h[a]? = some (cI n (flq i v F)) → wp E k 320 5 [some (.ref a), some (.int (iI v)), some (.int (iI (i : Int))), some (.int (iI (n : Int)))] [] h (fun r h1 => r = none ∧ h1.length = h.length ∧ h1[a]? = some (cI n (flq n v F)) ∧ ∀ b : Nat, b ≠ a → h1[b]? = h[b]?)
  | m, i, h, hm, hi, hh => by
    have ih : ∀ (i' : Nat) {h' : am_H}, n - i' < m → i' ≤ n → h'[a]? = some (cI n (flq i' v F)) → wp E k 320 5 [some (.ref a), some (.int (iI v)), some (.int (iI (i' : Int))), some (.int (iI (n : Int)))] [] h' (fun r h1 => r = none ∧ h1.length = h'.length ∧ h1[a]? = some (cI n (flq n v F)) ∧ ∀ b : Nat, b ≠ a → h1[b]? = h'[b]?) := fun i' h' h1 h2 h3 => m_fillx_l ha hn (n - i') i' h' rfl h2 h3
    refine wp_g (n := 2) (pc' := 7) (L' := [some (.ref a), some (.int (iI v)), some (.int (iI (i : Int))), some (.int (iI (n : Int)))]) (st' := [.int (iI (n : Int)), .int (iI (i : Int))]) rfl ?_
    refine wp_icmpI rfl rfl (by omega) (by omega) (by omega) (by omega) (fun c1 => ?_) (fun c1 => ?_)
    · have c1 : (((n : Int) : Int) ≤ ((i : Int) : Int)) := c1
      refine wp_vret rfl rfl ?_
      have hin : i = n := by omega
      subst hin
      exact ⟨rfl, rfl, hh, fun b _ => rfl⟩
    · have c1 : (¬ ((n : Int) : Int) ≤ ((i : Int) : Int)) := c1
      refine wp_g (n := 3) (pc' := 13) (L' := [some (.ref a), some (.int (iI v)), some (.int (iI (i : Int))), some (.int (iI (n : Int)))]) (st' := [.int (iI v), .int (iI (i : Int)), .ref a]) rfl ?_
      refine wp_iasF rfl hh (by omega) (by omega) (by omega) (fun h1 hl1 hz1 hf1 => ?_)
      have hh : h1[a]? = some (cI n (up (flq i v F) ((i : Int)).toNat v)) := hz1
      refine wp_iinc (L' := [some (.ref a), some (.int (iI v)), some (.int (iI ((i : Int) + 1))), some (.int (iI (n : Int)))]) rfl rfl rfl ?_
      refine wp_g (n := 1) (pc' := 5) (L' := [some (.ref a), some (.int (iI v)), some (.int (iI ((i : Int) + 1))), some (.int (iI (n : Int)))]) (st' := []) rfl ?_
      rw [Int.toNat_natCast, flq_up] at hh
      exact (wp_L (ih (i + 1) (by omega) (by omega) hh) (by rw [Int.natCast_add]; rfl)).mono (fun r h2 q => ⟨q.1, q.2.1.trans hl1, q.2.2.1, fun b hb => (q.2.2.2 b hb).trans (hf1 b hb)⟩)
  termination_by m => m
theorem m_fillx {a n : Nat} {v : Int} {F : Nat → Int} (hh : h[a]? = some (cI n F)) (ha : a < 1000000) (hn : n ≤ 100000) : wp E k 320 0 (am_entry [.ref a, .int (iI v)] 4) [] h (fun r h1 => r = none ∧ h1.length = h.length ∧ h1[a]? = some (cI n (flq n v F)) ∧ ∀ b : Nat, b ≠ a → h1[b]? = h[b]?) := by
  refine wp_g (n := 3) (pc' := 3) (L' := [some (.ref a), some (.int (iI v)), some (.int (iI 0)), none]) (st' := [.ref a]) rfl ?_
  refine wp_alen rfl hh ha ?_
  refine wp_g (n := 1) (pc' := 5) (L' := [some (.ref a), some (.int (iI v)), some (.int (iI 0)), some (.int (iI (n : Int)))]) (st' := []) rfl ?_
  exact m_fillx_l ha hn n 0 h rfl (by omega) (by rw [flq_0]; exact hh)
theorem flq_rg {n : Nat} {v : Int} {F : Nat → Int} (hF : ∀ j, -2147483648 ≤ F j ∧ F j < 2147483648) (v1 : -2147483648 ≤ v) (v2 : v < 2147483648) (j : Nat) : -2147483648 ≤ flq n v F j ∧ flq n v F j < 2147483648 := by
  unfold flq
  split
  · omega
  · exact hF j
theorem c_fill {a n : Nat} (S : ST h m γ t) (ha : ncel a) (hq : lay a = (0, n, [])) (hl : ¬ lcel a) (hn : n ≤ 100000) (v : Int) (v1 : -2147483648 ≤ v) (v2 : v < 2147483648) : wp E k 320 0 (am_entry [.ref a, .int (iI v)] 4) [] h (fun r h1 => r = none ∧ ST h1 (up m a (flq n v (m a))) γ t) := by
  have hh := S.1 a ha
  rw [hq] at hh
  refine (m_fillx (F := m a) (n := n) (v := v) hh (by unfold ncel at ha; omega) hn).mono (fun r h1 q => ⟨q.1, S.set a ha q.2.1 ?_ q.2.2.2 (fun j => ?_)⟩)
  · rw [hq]
    exact q.2.2.1
  · have := flq_rg (n := n) (fun j => S.rg a j hl) v1 v2 j
    omega
end ST2
