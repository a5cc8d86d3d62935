/-! ===== passings: each cross is passed once over and once under ===== -/
def dX (c : Nat) (b : Bool) : Int := sdX (exs c b : Int) - sdX (exs c (!b) : Int)
def dY (c : Nat) (b : Bool) : Int := sdY (exs c b : Int) - sdY (exs c (!b) : Int)
def ovr (R C : Nat) (z : Int) (c : Nat) (b : Bool) : Bool := (decide (dX c b = dY c b) == decide (gbel R C (exe R C c b).toNat = 0)) != decide (z = 1)
/-- the four corners, with their ways, that end at an edge -/
def esL (R C e : Nat) : List (Nat × Bool) :=
  let s := if gbel R C e = 0 then 1 else 2
  let c2 := if gbel R C e = 0 then gcell R C e + 1 else gcell R C e + C
  [(4 * gcell R C e + s, false), (4 * gcell R C e + (s + 3) % 4, true), (4 * c2 + (s + 2) % 4, false), (4 * c2 + (s + 1) % 4, true)]
def es_Q (R C c : Nat) (b : Bool) : Bool := decide (exe R C c b = -1) || (esL R C (exe R C c b).toNat).any (fun y => decide (y = (c, b)))
theorem es_D0 : ∀ R, R ≤ 4 → ∀ C, C ≤ 4 → ∀ c, c < 4 * (R * C) → es_Q R C c true = true ∧ es_Q R C c false = true := by decide +kernel
theorem es_Qm {R C c : Nat} {b : Bool} (h : es_Q R C c b = true) : exe R C c b = -1 ∨ (c, b) ∈ esL R C (exe R C c b).toNat := by
  unfold es_Q at h
  rw [Bool.or_eq_true, decide_eq_true_eq, List.any_eq_true] at h
  rcases h with h | ⟨y, h1, h2⟩
  · exact Or.inl h
  · exact Or.inr (of_decide_eq_true h2 ▸ h1)
theorem es_D (R : Nat) (hR : R ≤ 4) (C : Nat) (hC : C ≤ 4) (c : Nat) (hc : c < 4 * (R * C)) : (exe R C c true = -1 ∨ (c, true) ∈ esL R C (exe R C c true).toNat) ∧ (exe R C c false = -1 ∨ (c, false) ∈ esL R C (exe R C c false).toNat) := ⟨es_Qm (es_D0 R hR C hC c hc).1, es_Qm (es_D0 R hR C hC c hc).2⟩
def es_P (R C e z : Nat) : Bool :=
  (esL R C e).all (fun x => decide (x.1 < 4 * (R * C)) && decide (exe R C x.1 x.2 = e) && decide (exe R C (rho (nxk R C (z : Nat) x.1 x.2)).1 (rho (nxk R C (z : Nat) x.1 x.2)).2 = e) && (ovr R C (z : Nat) (rho (nxk R C (z : Nat) x.1 x.2)).1 (rho (nxk R C (z : Nat) x.1 x.2)).2 == ovr R C (z : Nat) x.1 x.2)
    && (esL R C e).all (fun y => !(ovr R C (z : Nat) x.1 x.2 == ovr R C (z : Nat) y.1 y.2) || decide (y = x) || decide (y = rho (nxk R C (z : Nat) x.1 x.2))))
  && (esL R C e).any (fun x => ovr R C (z : Nat) x.1 x.2) && (esL R C e).any (fun x => !ovr R C (z : Nat) x.1 x.2)
theorem es_D2 : ∀ R, R ≤ 4 → ∀ C, C ≤ 4 → ∀ e, e < gn R C → es_P R C e 0 = true ∧ es_P R C e 1 = true := by decide +kernel
theorem es_mem {G : GV} (hG : vG G) {x : Nat × Bool} (hx : x.1 < nC G) (he : exe G.1 G.2.1 x.1 x.2 ≠ -1) : x ∈ esL G.1 G.2.1 (exe G.1 G.2.1 x.1 x.2).toNat := by
  have h := es_D G.1 hG.1.le.1 G.2.1 hG.1.le.2 x.1 hx
  obtain ⟨c, b⟩ := x
  cases b
  · exact h.2.resolve_left he
  · exact h.1.resolve_left he
theorem isC_ed {G : GV} {x : Nat × Bool} (h : isC G x = true) : exe G.1 G.2.1 x.1 x.2 ≠ -1 ∧ exk G x = G.2.2 (exe G.1 G.2.1 x.1 x.2).toNat := by
  have h := of_decide_eq_true h
  have h1 : exe G.1 G.2.1 x.1 x.2 ≠ -1 := fun h1 => by
    unfold exk at h
    rw [if_pos h1] at h
    omega
  exact ⟨h1, if_neg h1⟩
/-- two that end at the same cross on the same line -/
theorem es_two {G : GV} (hG : vG G) {x y : Nat × Bool} (hx : x.1 < nC G) (hy : y.1 < nC G) (cx : isC G x = true) (cy : isC G y = true) (he : exe G.1 G.2.1 x.1 x.2 = exe G.1 G.2.1 y.1 y.2) (ho : ovr G.1 G.2.1 (exk G x) x.1 x.2 = ovr G.1 G.2.1 (exk G y) y.1 y.2) : y = x ∨ y = rho (nx G x) := by
  obtain ⟨e1, k1⟩ := isC_ed cx
  obtain ⟨e2, k2⟩ := isC_ed cy
  have mx := es_mem hG hx e1
  have my := es_mem hG hy e2
  rw [← he] at my k2
  rw [k2, ← k1] at ho
  have hr := exe_rng hG hx
  have hd := es_D2 G.1 hG.1.le.1 G.2.1 hG.1.le.2 (exe G.1 G.2.1 x.1 x.2).toNat (by omega)
  have hz : exk G x = ((0 : Nat) : Int) ∨ exk G x = ((1 : Nat) : Int) := of_decide_eq_true cx
  have key : ∀ z : Nat, exk G x = (z : Int) → es_P G.1 G.2.1 (exe G.1 G.2.1 x.1 x.2).toNat z = true → y = x ∨ y = rho (nx G x) := by
    intro z hz hp
    unfold es_P at hp
    rw [Bool.and_eq_true, Bool.and_eq_true, List.all_eq_true] at hp
    have h1 := hp.1.1 x mx
    rw [Bool.and_eq_true, List.all_eq_true] at h1
    have h2 := h1.2 y my
    rw [Bool.or_eq_true, Bool.or_eq_true, Bool.not_eq_true', decide_eq_true_eq, decide_eq_true_eq] at h2
    unfold nx
    rw [hz] at ho ⊢
    rcases h2 with (h2 | h2) | h2
    · rw [ho] at h2
      simp at h2
    · exact Or.inl h2
    · exact Or.inr h2
  rcases hz with hz | hz
  · exact key 0 hz hd.1
  · exact key 1 hz hd.2
/-- each line of a cross has an end, and the other end is on it too -/
theorem es_one {G : GV} (hG : vG G) {e : Nat} (he : e < gn G.1 G.2.1) (hk : G.2.2 e = 0 ∨ G.2.2 e = 1) (o : Bool) : ∃ x : Nat × Bool, x.1 < nC G ∧ exe G.1 G.2.1 x.1 x.2 = e ∧ exk G x = G.2.2 e ∧ ovr G.1 G.2.1 (exk G x) x.1 x.2 = o ∧
    exe G.1 G.2.1 (rho (nx G x)).1 (rho (nx G x)).2 = e ∧ exk G (rho (nx G x)) = G.2.2 e ∧ ovr G.1 G.2.1 (exk G (rho (nx G x))) (rho (nx G x)).1 (rho (nx G x)).2 = o := by
  have hd := es_D2 G.1 hG.1.le.1 G.2.1 hG.1.le.2 e he
  have hz : G.2.2 e = ((0 : Nat) : Int) ∨ G.2.2 e = ((1 : Nat) : Int) := hk
  have key : ∀ z : Nat, G.2.2 e = (z : Int) → es_P G.1 G.2.1 e z = true → ∃ x : Nat × Bool, x.1 < nC G ∧ exe G.1 G.2.1 x.1 x.2 = e ∧ exk G x = G.2.2 e ∧ ovr G.1 G.2.1 (exk G x) x.1 x.2 = o ∧
    exe G.1 G.2.1 (rho (nx G x)).1 (rho (nx G x)).2 = e ∧ exk G (rho (nx G x)) = G.2.2 e ∧ ovr G.1 G.2.1 (exk G (rho (nx G x))) (rho (nx G x)).1 (rho (nx G x)).2 = o := by
    intro z hz hp
    unfold es_P at hp
    rw [Bool.and_eq_true, Bool.and_eq_true, List.all_eq_true, List.any_eq_true, List.any_eq_true] at hp
    have hex : ∃ x ∈ esL G.1 G.2.1 e, ovr G.1 G.2.1 (z : Nat) x.1 x.2 = o := by
      cases o
      · obtain ⟨x, h1, h2⟩ := hp.2
        exact ⟨x, h1, by simpa using h2⟩
      · exact hp.1.2
    obtain ⟨x, hx, ho⟩ := hex
    have h1 := hp.1.1 x hx
    simp only [Bool.and_eq_true, decide_eq_true_eq, beq_iff_eq] at h1
    obtain ⟨⟨⟨⟨h2, h3⟩, h4⟩, h5⟩, -⟩ := h1
    have e1 : exk G x = z := by
      unfold exk
      rw [h3, if_neg (by omega), Int.toNat_natCast, hz]
    have e2 : nx G x = nxk G.1 G.2.1 (z : Nat) x.1 x.2 := by
      unfold nx
      rw [e1]
    have e3 : exk G (rho (nx G x)) = z := by
      unfold exk
      rw [e2, h4, if_neg (by omega), Int.toNat_natCast, hz]
    refine ⟨x, h2, h3, by rw [e1, hz], by rw [e1]; exact ho, by rw [e2]; exact h4, by rw [e3, hz], ?_⟩
    rw [e3, e2, h5]
    exact ho
  rcases hz with hz | hz
  · exact key 0 hz hd.1
  · exact key 1 hz hd.2
theorem nodup_inj {α : Type} {f : α → Nat} : ∀ {l : List α}, (l.map f).Nodup → ∀ x ∈ l, ∀ y ∈ l, f x = f y → x = y
  | [], _, x, hx, _, _, _ => absurd hx List.not_mem_nil
  | a :: r, h, x, hx, y, hy, e => by
    rw [List.map_cons, List.nodup_cons] at h
    rcases List.mem_cons.mp hx with rfl | hx'
    · rcases List.mem_cons.mp hy with rfl | hy'
      · rfl
      · exact absurd (e ▸ List.mem_map_of_mem hy') h.1
    · rcases List.mem_cons.mp hy with rfl | hy'
      · exact absurd (e.symm ▸ List.mem_map_of_mem hx') h.1
      · exact nodup_inj h.2 x hx' y hy' e
def pcode (G : GV) (x : Nat × Bool) : Nat := 2 * (exe G.1 G.2.1 x.1 x.2).toNat + (if ovr G.1 G.2.1 (exk G x) x.1 x.2 then 1 else 0)
theorem code_nodup {G : GV} (hG : vG G) {A : AS} (hA : clo G A) : (((A.1.map (fun x => x.2.2)).filter (isC G)).map (pcode G)).Nodup := by
  have hst : (A.1.map (fun x => x.2.2)).Nodup := by
    have h := hA.1
    unfold cs at h
    unfold List.Nodup at h ⊢
    rw [List.pairwise_map] at h ⊢
    exact h.imp (fun {a b} hab e => hab (by rw [e]))
  unfold List.Nodup
  rw [List.pairwise_map]
  refine List.Pairwise.imp_of_mem (R := fun a b => a ≠ b) ?_ (hst.filter _)
  intro x y hx hy hxy hc
  obtain ⟨hx1, hx2⟩ := List.mem_filter.mp hx
  obtain ⟨hy1, hy2⟩ := List.mem_filter.mp hy
  obtain ⟨u, hu, rfl⟩ := List.mem_map.mp hx1
  obtain ⟨v, hv, rfl⟩ := List.mem_map.mp hy1
  have lx : u.2.2.1 < nC G := hA.2.1 _ (List.mem_map_of_mem hu)
  have ly : v.2.2.1 < nC G := hA.2.1 _ (List.mem_map_of_mem hv)
  have e1 := isC_ed hx2
  have e2 := isC_ed hy2
  have r1 := exe_rng hG lx
  have r2 := exe_rng hG ly
  unfold pcode at hc
  have hh : exe G.1 G.2.1 u.2.2.1 u.2.2.2 = exe G.1 G.2.1 v.2.2.1 v.2.2.2 ∧ ovr G.1 G.2.1 (exk G u.2.2) u.2.2.1 u.2.2.2 = ovr G.1 G.2.1 (exk G v.2.2) v.2.2.1 v.2.2.2 := by
    cases h1 : ovr G.1 G.2.1 (exk G u.2.2) u.2.2.1 u.2.2.2 <;> cases h2 : ovr G.1 G.2.1 (exk G v.2.2) v.2.2.1 v.2.2.2 <;> rw [h1, h2] at hc <;> simp at hc ⊢ <;> omega
  rcases es_two hG lx ly hx2 hy2 hh.1 hh.2 with h | h
  · exact hxy h.symm
  · obtain ⟨w, hw, hw2⟩ := hA.2.2.1 u hu
    have e3 : w.2.2.1 = v.2.2.1 := by rw [hw2, h]; rfl
    have e4 := nodup_inj (f := fun x : Nat × Nat × Nat × Bool => x.2.2.1) hA.1 w hw v hv e3
    rw [← e4, hw2] at h
    exact rho_ne _ h.symm
theorem code_len {G : GV} (hG : vG G) {A : AS} (hA : clo G A) : ((A.1.map (fun x => x.2.2)).filter (isC G)).length ≤ 2 * gn G.1 G.2.1 := by
  have h := nodup_le (2 * gn G.1 G.2.1) _ (code_nodup hG hA) (fun c hc => by
    obtain ⟨x, hx, rfl⟩ := List.mem_map.mp hc
    obtain ⟨hx1, hx2⟩ := List.mem_filter.mp hx
    obtain ⟨u, hu, rfl⟩ := List.mem_map.mp hx1
    have r1 := exe_rng hG (hA.2.1 _ (List.mem_map_of_mem hu) : u.2.2.1 < nC G)
    have := isC_ed hx2
    unfold pcode
    split <;> omega)
  rwa [List.length_map] at h
/-- the passings of what was gone through -/
def pok (G : GV) (A : AS) : Prop := A.2.1.map (fun y => y.2.2) = (A.1.map (fun x => x.2.2)).filter (isC G)
theorem nt_pok {G : GV} {A : AS} (h : pok G A) (i : Nat) (x : Nat × Bool) : pok G (nt G A i x) := by
  unfold pok nt at *
  simp only [List.map_append, List.filter_append, List.map_cons, List.map_nil, List.filter_cons, List.filter_nil]
  split
  · rw [List.map_append, h]
    rfl
  · rw [List.append_nil]
    exact h
theorem inn_pok {G : GV} {A : AS} (h : pok G A) (c : Nat) : ∀ i, pok G (inn G A c i)
  | 0 => h
  | i + 1 => nt_pok (inn_pok h c i) i _
theorem out_pok (G : GV) : ∀ c, pok G (out G c)
  | 0 => rfl
  | c + 1 => by
    unfold out
    split
    · exact out_pok G c
    · exact inn_pok (A := stt (out G c)) (out_pok G c) c _
theorem pok_len {G : GV} {A : AS} (h : pok G A) : A.2.1.length = ((A.1.map (fun x => x.2.2)).filter (isC G)).length := by
  rw [← h, List.length_map]
theorem inn_plen {G : GV} {A : AS} {c : Nat} : ∀ {i j : Nat}, i ≤ j → (inn G A c i).2.1.length ≤ (inn G A c j).2.1.length
  | i, 0, h => by rw [Nat.le_zero.mp h]; exact Nat.le_refl _
  | i, j + 1, h => by
    by_cases hij : i = j + 1
    · rw [hij]
      exact Nat.le_refl _
    · have ih := inn_plen (G := G) (A := A) (c := c) (i := i) (j := j) (by omega)
      have : (inn G A c j).2.1.length ≤ (inn G A c (j + 1)).2.1.length := by
        show _ ≤ (nt G (inn G A c j) j (nxi G j (c, true))).2.1.length
        unfold nt
        simp only
        split
        · rw [List.length_append]
          omega
        · exact Nat.le_refl _
      omega
/-- room for one corner and one passing more -/
theorem inn_room {G : GV} (hG : vG G) {A : AS} (hA : clo G A) (hp : pok G A) {c : Nat} (hc : c < nC G) (hv : c ∉ cs A) {i : Nat} (hi : i < len G c) : (inn G (stt A) c i).1.length < nC G ∧ (isC G (nxi G i (c, true)) = true → (inn G (stt A) c i).2.1.length < 2 * gn G.1 G.2.1) := by
  constructor
  · obtain ⟨h1, h2⟩ := inn_nodup hG hA hc hv (i + 1) (by omega)
    have h3 := nodup_le _ _ h1 h2
    unfold cs at h3
    rw [List.length_map] at h3
    have h4 : (inn G (stt A) c (i + 1)).1 = (inn G (stt A) c i).1 ++ [((inn G (stt A) c i).2.2.1.length - 1, i, nxi G i (c, true))] := rfl
    rw [h4, List.length_append] at h3
    simp at h3
    omega
  · intro hC
    have h1 : (inn G (stt A) c (i + 1)).2.1 = (inn G (stt A) c i).2.1 ++ [((inn G (stt A) c i).2.1.length, (inn G (stt A) c i).2.2.1.length - 1, nxi G i (c, true))] := by
      show (nt G (inn G (stt A) c i) i (nxi G i (c, true))).2.1 = _
      unfold nt
      simp only
      rw [if_pos hC]
    have h2 := inn_plen (G := G) (A := stt A) (c := c) (i := i + 1) (j := len G c) (by omega)
    have h3 := pok_len (inn_pok (A := stt A) hp c (len G c))
    have h4 := code_len hG (fol_clo hG hA hc hv)
    unfold fol at h4
    rw [h1, List.length_append] at h2
    simp only [List.length_cons, List.length_nil] at h2
    omega
/-- every cross is passed over, and under -/
theorem pass_all {G : GV} (hG : vG G) {e : Nat} (he : e < gn G.1 G.2.1) (hk : G.2.2 e = 0 ∨ G.2.2 e = 1) (o : Bool) : ∃ y ∈ (out G (nC G)).2.1, exe G.1 G.2.1 y.2.2.1 y.2.2.2 = e ∧ ovr G.1 G.2.1 (exk G y.2.2) y.2.2.1 y.2.2.2 = o := by
  obtain ⟨hA, hall⟩ := out_clo hG (nC G) (Nat.le_refl _)
  obtain ⟨x, h1, h2, h3, h4, h5, h6, h7⟩ := es_one hG he hk o
  have fin : ∀ x : Nat × Bool, (∃ u ∈ (out G (nC G)).1, u.2.2 = x) → exe G.1 G.2.1 x.1 x.2 = e → exk G x = G.2.2 e → ovr G.1 G.2.1 (exk G x) x.1 x.2 = o → ∃ y ∈ (out G (nC G)).2.1, exe G.1 G.2.1 y.2.2.1 y.2.2.2 = e ∧ ovr G.1 G.2.1 (exk G y.2.2) y.2.2.1 y.2.2.2 = o := by
    rintro x ⟨u, hu, rfl⟩ q1 q2 q3
    have hm : u.2.2 ∈ ((out G (nC G)).1.map (fun x => x.2.2)).filter (isC G) := List.mem_filter.mpr ⟨List.mem_map_of_mem hu, decide_eq_true (by rw [q2]; exact hk)⟩
    rw [← out_pok G (nC G)] at hm
    obtain ⟨y, hy, e1⟩ := List.mem_map.mp hm
    have e1 : y.2.2 = u.2.2 := e1
    exact ⟨y, hy, by rw [e1]; exact ⟨q1, q3⟩⟩
  obtain ⟨u, hu, hu2⟩ := List.mem_map.mp (hall x.1 h1)
  have hu2 : u.2.2.1 = x.1 := hu2
  by_cases hb : u.2.2.2 = x.2
  · exact fin x ⟨u, hu, Prod.ext hu2 hb⟩ h2 h3 h4
  · have hr : u.2.2 = rho x := Prod.ext hu2 (by
      show u.2.2.2 = !x.2
      cases h8 : u.2.2.2 <;> cases h9 : x.2 <;> simp [h8, h9] at hb ⊢)
    obtain ⟨v, hv, hv2⟩ := hA.2.2.2 u hu
    rw [hr, ← (nx_ok hG h1).2.2.1] at hv2
    have := nx_inj hG (hA.2.1 _ (List.mem_map_of_mem hv) : v.2.2.1 < nC G) (show (rho (nx G x)).1 < nC G from (nx_ok hG h1).1) hv2
    exact fin (rho (nx G x)) ⟨v, hv, this⟩ h5 h6 h7
