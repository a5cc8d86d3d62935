/-! ===== tell: texts ===== -/
theorem take_s : ∀ {l : List Int} {j : Nat}, j < l.length → l.take (j + 1) = l.take j ++ [l.getD j 0]
  | [], j, h => absurd h (Nat.not_lt_zero j)
  | x :: r, 0, _ => rfl
  | x :: r, j + 1, h => by
    show x :: r.take (j + 1) = x :: (r.take j ++ [r.getD j 0])
    rw [take_s (l := r) (j := j) (by simpa using h)]
def tNum (n : Nat) : List Int := if n < 10 then [48 + (n : Int)] else [48 + ((n / 10 : Nat) : Int), 48 + ((n % 10 : Nat) : Int)]
def tE (G : GV) (kd : Int) (wl : List Int) : Nat → List Int
  | 0 => []
  | e + 1 => if G.2.2 e = kd then tE G kd wl e ++ ((if cnt G.2.2 kd e = 0 then wl else [44]) ++ (tNum (gcell G.1 G.2.1 e) ++ (if gbel G.1 G.2.1 e = 0 then tx 8 else tx 9))) else tE G kd wl e
def tLine (G : GV) (kd : Int) (wl : List Int) : List Int := if cnt G.2.2 kd (gn G.1 G.2.1) = 0 then [] else tE G kd wl (gn G.1 G.2.1) ++ [59]
def tGrid (G : GV) : List Int := (((((((tx 6 ++ tNum G.1) ++ [32]) ++ tNum G.2.1) ++ [59]) ++ tLine G 1 (tx 7)) ++ tLine G 2 (tx 10)) ++ tLine G 3 (tx 11))
def pk (G : GV) (r a b : Nat) : Nat → List Int
  | 0 => []
  | k + 1 => pk G r a b k ++ [48 + tP G (4 * (r * G.2.1 + k / 2) + (if k % 2 = 0 then a else b)) % 2]
def tPn (G : GV) : Nat → List Int
  | 0 => []
  | r + 1 => (((tPn G r ++ pk G r 3 0 (2 * G.2.1)) ++ [10]) ++ pk G r 2 1 (2 * G.2.1)) ++ [10]
theorem tNum_len (n : Nat) : (tNum n).length ≤ 2 := by
  unfold tNum
  split <;> simp
theorem tx_len6 {n : Nat} (hn : n < 27) : (tx n).length ≤ 6 := by
  have := (tx_D n hn).1
  rw [tx_len]
  omega
theorem tE_len {G : GV} {kd : Int} {wl : List Int} (hw : wl.length ≤ 5) : ∀ e, ((tE G kd wl e).length : Int) ≤ 13 * cnt G.2.2 kd e
  | 0 => by show (0 : Int) ≤ 13 * 0; omega
  | e + 1 => by
    have ih := tE_len (G := G) (kd := kd) hw e
    have h1 := tNum_len (gcell G.1 G.2.1 e)
    have h8 := tx_len6 (n := 8) (by decide)
    have h9 := tx_len6 (n := 9) (by decide)
    show ((if G.2.2 e = kd then _ else tE G kd wl e : List Int).length : Int) ≤ 13 * (cnt G.2.2 kd e + if G.2.2 e = kd then 1 else 0)
    by_cases c : G.2.2 e = kd
    · rw [if_pos c, if_pos c, List.length_append, List.length_append, List.length_append]
      have a1 : (if cnt G.2.2 kd e = 0 then wl else [44]).length ≤ 5 := by
        split
        · exact hw
        · show 1 ≤ 5; omega
      have a2 : (if gbel G.1 G.2.1 e = 0 then tx 8 else tx 9).length ≤ 6 := by split <;> assumption
      omega
    · rw [if_neg c, if_neg c]
      omega
theorem tE_0 {G : GV} {kd : Int} {wl : List Int} : ∀ e, cnt G.2.2 kd e = 0 → tE G kd wl e = []
  | 0, _ => rfl
  | e + 1, h => by
    have h1 := (cnt_rng G.2.2 kd e).1
    have h : cnt G.2.2 kd e + (if G.2.2 e = kd then 1 else 0) = 0 := h
    show (if G.2.2 e = kd then _ else tE G kd wl e) = []
    by_cases c : G.2.2 e = kd
    · rw [if_pos c] at h
      omega
    · rw [if_neg c] at h ⊢
      exact tE_0 e (by omega)
theorem pk_len (G : GV) (r a b : Nat) : ∀ k, (pk G r a b k).length = k
  | 0 => rfl
  | k + 1 => by
    show (pk G r a b k ++ [_]).length = k + 1
    rw [List.length_append, pk_len G r a b k]
    rfl
theorem tPn_len (G : GV) : ∀ r, (tPn G r).length = (4 * G.2.1 + 2) * r
  | 0 => rfl
  | r + 1 => by
    show ((((tPn G r ++ pk G r 3 0 (2 * G.2.1)) ++ [10]) ++ pk G r 2 1 (2 * G.2.1)) ++ [10]).length = _
    rw [List.length_append, List.length_append, List.length_append, List.length_append, tPn_len G r, pk_len, pk_len, Nat.mul_succ]
    show _ + 1 + _ + 1 = _
    omega
theorem cnt3 (G : GV) : ∀ n : Nat, cnt G.2.2 1 n + cnt G.2.2 2 n + cnt G.2.2 3 n ≤ (n : Int)
  | 0 => by show (0 : Int) + 0 + 0 ≤ 0; omega
  | n + 1 => by
    have := cnt3 G n
    show (cnt G.2.2 1 n + if G.2.2 n = 1 then 1 else 0) + (cnt G.2.2 2 n + if G.2.2 n = 2 then 1 else 0) + (cnt G.2.2 3 n + if G.2.2 n = 3 then 1 else 0) ≤ ((n + 1 : Nat) : Int)
    by_cases a : G.2.2 n = 1
    · rw [if_pos a, if_neg (by omega), if_neg (by omega)]; omega
    · by_cases b : G.2.2 n = 2
      · rw [if_neg a, if_pos b, if_neg (by omega)]; omega
      · rw [if_neg a, if_neg b]
        split <;> omega
theorem tLine_len {G : GV} {kd : Int} {wl : List Int} (hw : wl.length ≤ 5) : ((tLine G kd wl).length : Int) ≤ 13 * cnt G.2.2 kd (gn G.1 G.2.1) + 1 := by
  have h := tE_len (G := G) (kd := kd) hw (gn G.1 G.2.1)
  have h0 := (cnt_rng G.2.2 kd (gn G.1 G.2.1)).1
  unfold tLine
  split
  · show ((0 : Nat) : Int) ≤ _
    omega
  · rw [List.length_append]
    show (((tE G kd wl (gn G.1 G.2.1)).length + 1 : Nat) : Int) ≤ _
    omega
theorem byt_D : ∀ z, z < 128 → bByt ((z : Nat) : Int) = (z : Int) ∧ bChr ((z : Nat) : Int) = (z : Int) := by decide +kernel
theorem byt {z : Int} (h0 : 0 ≤ z) (h1 : z < 128) : bByt z = z ∧ bChr z = z := by
  have := byt_D z.toNat (by omega)
  rw [show ((z.toNat : Nat) : Int) = z by omega] at this
  exact this
def fO (m m1 : MM) : Prop := ∀ b, b ≠ 101 → b ≠ 102 → m1 b = m b
theorem fO.trans {m m1 m2 : MM} (h1 : fO m m1) (h2 : fO m1 m2) : fO m m2 := fun b a c => (h2 b a c).trans (h1 b a c)
theorem tNum_D : ∀ n, n < 100 → (∀ z ∈ tNum n, 0 ≤ z ∧ z < 128) := by decide +kernel
section TC
variable {E : am_E} {k : Nat} {m : MM} {γ : GM} {t : am_H} {Q : MM → GM → am_H → Prop} {l : List Int}
theorem OUc.app {z : Int} (h : OUc m l) (hl : l.length < 400) (hz : 0 ≤ z ∧ z < 128) : OUc (up (up m 102 (up (m 102) l.length z)) 101 (up (m 101) 1 ((l.length : Int) + 1))) (l ++ [z]) := by
  obtain ⟨h1, h2, h3⟩ := h
  refine ⟨?_, by rw [List.length_append]; exact hl, fun i hi => ?_⟩
  · rw [up_self, up_self, List.length_append]
    rfl
  · rw [up_ne (by decide), up_self]
    rw [List.length_append] at hi
    have hi : i < l.length + 1 := hi
    by_cases c : i = l.length
    · subst c
      rw [up_self, List.getElem_append_right (Nat.le_refl _)]
      simp only [Nat.sub_self, List.getElem_cons_zero]
      exact ⟨trivial, hz⟩
    · rw [up_ne c, List.getElem_append_left (show i < l.length by omega)]
      exact h3 i (by omega)
theorem S_addByte {z : Int} (hO : OUc m l) (hl : l.length < 400) (hz : 0 ≤ z ∧ z < 128) (hQ : ∀ m1, OUc m1 (l ++ [z]) → fO m m1 → Q m1 γ t) : TV E k 57 [.ref 101, .int (iI z)] m γ t Q := by
  have hb := (byt hz.1 hz.2).1
  refine vc_X4_addByte (by omega) ⟨fun _ => ?_, fun c => absurd (by rw [hO.1]; omega) c⟩
  rw [hO.1, Int.toNat_natCast, hb]
  exact ⟨by omega, by omega, by omega, hQ _ (hO.app hl hz) (fun b h1 h2 => by rw [up_ne h1, up_ne h2])⟩
theorem S_addNumber (n : Nat) (hn : n < 100) (hO : OUc m l) (hl : l.length + 2 ≤ 400) (hQ : ∀ m1, OUc m1 (l ++ tNum n) → fO m m1 → Q m1 γ t) : TV E (k + 1) 56 [.ref 101, .int (iI (n : Int))] m γ t Q := by
  refine vc_X4_addNumber (by omega) ⟨fun c => ⟨by omega, ?_⟩, fun c => ⟨by omega, ?_⟩⟩
  · rw [(byt (show 0 ≤ 48 + (n : Int) % 10 by omega) (by omega)).2]
    refine S_addByte hO (by omega) (by omega) (fun m1 h1 f1 => hQ m1 ?_ f1)
    unfold tNum
    rw [if_pos (by omega)]
    rw [show 48 + (n : Int) % 10 = 48 + (n : Int) by omega] at h1
    exact h1
  · rw [(byt (show 0 ≤ 48 + (n : Int) / 10 by omega) (by omega)).2, (byt (show 0 ≤ 48 + (n : Int) % 10 by omega) (by omega)).2]
    refine S_addByte hO (by omega) (by omega) (fun m1 h1 f1 => ⟨by omega, S_addByte h1 (by rw [List.length_append]; show l.length + 1 < 400; omega) (by omega) (fun m2 h2 f2 => hQ m2 ?_ (f1.trans f2))⟩)
    unfold tNum
    rw [if_neg (by omega)]
    rw [List.append_assoc] at h2
    exact h2
theorem S_addText (n : Nat) (hE : EV E) (hn : n < 27) (hO : OUc m l) (hl : l.length + (tx n).length ≤ 400) (hQ : ∀ m1, OUc m1 (l ++ tx n) → fO m m1 → Q m1 γ t) : TV E (k + 4) 55 [.ref 101, .ref (1000000 + 2 * n)] m γ t Q := by
  have h6 := tx_len6 hn
  refine vc_X4_addText ⟨n, hn, rfl⟩ ?_
  refine upN (n := (tx n).length) (P := fun j => ∀ m1, OUc m1 (l ++ (tx n).take j) → fO m m1 → hd_X4_addText_2 E (k + 3) (1000000 + 2 * n) (j : Int) m1 γ t Q) (fun m1 h1 f1 => ?_) (fun j hj ih => fun m1 h1 f1 => ?_) 0 (Nat.zero_le _) m (by rw [List.take_zero, List.append_nil]; exact hO) (fun _ _ _ => rfl)
  · refine vc_X4_addText_2 ⟨n, hn, rfl⟩ (by omega) (S_length hn ⟨fun c => absurd c (by omega), fun _ => hQ m1 ?_ f1⟩)
    rw [List.take_length] at h1
    exact h1
  · refine vc_X4_addText_2 ⟨n, hn, rfl⟩ (by omega) (S_length hn ⟨fun _ => S_charAt hE hn hj (fun hz => ?_), fun c => absurd (by omega) c⟩)
    refine S_addByte h1 (by rw [List.length_append, List.length_take]; omega) hz (fun m2 h2 f2 => ih m2 ?_ (f1.trans f2))
    rw [take_s hj, ← List.append_assoc]
    exact h2
theorem S_addLine {G : GV} {g : Nat} {kd : Int} (n : Nat) (hE : EV E) (hn : n < 27) (hw : (tx n).length ≤ 5) (hg : isg g) (hγ : γ g = G) (hG : vG G) (hk : 0 ≤ kd ∧ kd ≤ 3) (hO : OUc m l) (hl : (l.length : Int) + 13 * cnt G.2.2 kd (gn G.1 G.2.1) + 1 ≤ 400) (hQ : ∀ m1, OUc m1 (l ++ tLine G kd (tx n)) → fO m m1 → Q m1 γ t) : TV E (k + 5) 53 [.ref 101, .ref g, .int (iI kd), .ref (1000000 + 2 * n)] m γ t Q := by
  have hle := hG.1.le
  have hgn := gn_le _ hle.1 _ hle.2
  have hTl := tE_len (G := G) (kd := kd) hw
  have cmono : ∀ e, e ≤ gn G.1 G.2.1 → cnt G.2.2 kd e ≤ cnt G.2.2 kd (gn G.1 G.2.1) := fun e he => by
    have key : ∀ d, cnt G.2.2 kd e ≤ cnt G.2.2 kd (e + d) := by
      intro d
      induction d with
      | zero => exact Int.le_refl _
      | succ d ih => show _ ≤ cnt G.2.2 kd (e + d) + (if G.2.2 (e + d) = kd then 1 else 0); split <;> omega
    have := key (gn G.1 G.2.1 - e)
    rw [show e + (gn G.1 G.2.1 - e) = gn G.1 G.2.1 by omega] at this
    exact this
  refine vc_X4_addLine hg (by omega) ⟨n, hn, rfl⟩ (S_howMany hg (by omega) (fun _ => ?_))
  rw [hγ]
  refine ⟨fun c => hQ m ?_ (fun _ _ _ => rfl), fun c => ?_⟩
  · unfold tLine
    rw [if_pos c, List.append_nil]
    exact hO
  have c0 := (cnt_rng G.2.2 kd (gn G.1 G.2.1)).1
  refine S_addText n hE hn hO (by omega) (fun m1 h1 f1 => ?_)
  refine upN (n := gn G.1 G.2.1) (P := fun e => ∀ m2 (is : Int), OUc m2 (l ++ (if cnt G.2.2 kd e = 0 then tx n else tE G kd (tx n) e)) → fO m m2 → ((cnt G.2.2 kd e = 0 ∧ is = 1) ∨ (cnt G.2.2 kd e ≠ 0 ∧ is = 0)) → hd_X4_addLine_20 E (k + 4) g kd (1000000 + 2 * n) kd is (e : Int) m2 γ t Q) (fun m2 is h2 f2 his => ?_) (fun e he ih => fun m2 is h2 f2 his => ?_) 0 (Nat.zero_le _) m1 1 (by rw [if_pos (show cnt G.2.2 kd 0 = 0 from rfl)]; exact h1) f1 (Or.inl ⟨rfl, rfl⟩)
  · refine vc_X4_addLine_20 hg (by omega) ⟨n, hn, rfl⟩ (by omega) (by omega) (by omega) (S_edges hg (fun _ => ?_))
    rw [hγ]
    refine ⟨fun z => absurd z (by omega), fun _ => ?_⟩
    rw [if_neg c] at h2
    have := hTl (gn G.1 G.2.1)
    refine S_addByte h2 (by rw [List.length_append]; omega) (by omega) (fun m3 h3 f3 => hQ m3 ?_ (f2.trans f3))
    unfold tLine
    rw [if_neg c, ← List.append_assoc]
    exact h3
  · have ce := cmono (e + 1) (by omega)
    have ce0 := (cnt_rng G.2.2 kd e).1
    have cs : cnt G.2.2 kd (e + 1) = cnt G.2.2 kd e + (if G.2.2 e = kd then 1 else 0) := rfl
    have ts : tE G kd (tx n) (e + 1) = if G.2.2 e = kd then tE G kd (tx n) e ++ ((if cnt G.2.2 kd e = 0 then tx n else [44]) ++ (tNum (gcell G.1 G.2.1 e) ++ (if gbel G.1 G.2.1 e = 0 then tx 8 else tx 9))) else tE G kd (tx n) e := rfl
    refine vc_X4_addLine_20 hg (by omega) ⟨n, hn, rfl⟩ (by omega) (by omega) (by omega) (S_edges hg (fun _ => ?_))
    rw [hγ]
    refine ⟨fun _ => S_kindOf e hg rfl (by rw [hγ]; exact he) (fun _ => ?_), fun z => absurd (by omega) z⟩
    rw [hγ]
    refine ⟨fun hkd => ?_, fun hkd => ?_⟩
    · rw [if_pos hkd] at cs ts
      have hte := hTl e
      have h8 := tx_len6 (n := 8) (by decide)
      have h9 := tx_len6 (n := 9) (by decide)
      -- the cell and its side
      have rest : ∀ m3 l3, OUc m3 l3 → fO m m3 → l3 = l ++ (tE G kd (tx n) e ++ (if cnt G.2.2 kd e = 0 then tx n else [44])) → (l3.length : Int) + 8 ≤ 400 → TI E (k + 4) 35 [.ref g, .int (iI (e : Int))] m3 γ t (fun v14 m14 γ14 t14 => TV E (k + 4) 56 [.ref 101, .int (iI v14)] m14 γ14 t14 (fun m15 γ15 t15 => TI E (k + 4) 36 [.ref g, .int (iI (e : Int))] m15 γ15 t15 (fun v16 m16 γ16 t16 => ((v16 = 0) → TV E (k + 4) 55 [.ref 101, .ref 1000016] m16 γ16 t16 (fun m19 γ19 t19 => hd_X4_addLine_20 E (k + 4) g kd (1000000 + 2 * n) kd 0 ((e : Int) + 1) m19 γ19 t19 Q)) ∧ (¬ (v16 = 0) → TV E (k + 4) 55 [.ref 101, .ref 1000018] m16 γ16 t16 (fun m18 γ18 t18 => hd_X4_addLine_20 E (k + 4) g kd (1000000 + 2 * n) kd 0 ((e : Int) + 1) m18 γ18 t18 Q))))) := by
        intro m3 l3 h3 f3 e3 hl3
        refine S_cellOf e hg rfl (by rw [hγ]; exact he) (fun hc => ?_)
        rw [hγ] at hc ⊢
        have hnl := tNum_len (gcell G.1 G.2.1 e)
        refine S_addNumber (gcell G.1 G.2.1 e) (by omega) h3 (by omega) (fun m4 h4 f4 => ?_)
        refine S_belowOf e hg rfl (by rw [hγ]; exact he) (fun hb => ?_)
        rw [hγ]
        have fin : ∀ m5 (w : List Int), w = (if gbel G.1 G.2.1 e = 0 then tx 8 else tx 9) → OUc m5 ((l3 ++ tNum (gcell G.1 G.2.1 e)) ++ w) → fO m m5 → hd_X4_addLine_20 E (k + 4) g kd (1000000 + 2 * n) kd 0 ((e : Int) + 1) m5 γ t Q := by
          intro m5 w hw5 h5 f5
          refine ih m5 0 ?_ f5 (Or.inr ⟨by omega, rfl⟩)
          rw [if_neg (by omega), ts]
          rw [hw5, e3, List.append_assoc, List.append_assoc, List.append_assoc] at h5
          exact h5
        refine ⟨fun c1 => S_addText 8 hE (by decide) h4 (by rw [List.length_append]; omega) (fun m5 h5 f5 => fin m5 _ (by rw [if_pos (by omega)]) h5 (f3.trans (f4.trans f5))), fun c1 => S_addText 9 hE (by decide) h4 (by rw [List.length_append]; omega) (fun m5 h5 f5 => fin m5 _ (by rw [if_neg (by omega)]) h5 (f3.trans (f4.trans f5)))⟩
      rcases his with ⟨i1, i2⟩ | ⟨i1, i2⟩
      · rw [i2]
        refine ⟨fun z => absurd z (by omega), fun _ => ?_⟩
        rw [if_pos i1] at h2
        refine rest m2 _ h2 f2 (by rw [if_pos i1, tE_0 e i1]; rfl) (by rw [List.length_append]; omega)
      · rw [i2]
        refine ⟨fun _ => ?_, fun z => absurd rfl z⟩
        rw [if_neg i1] at h2
        refine S_addByte h2 (by rw [List.length_append]; omega) (by omega) (fun m3 h3 f3 => ?_)
        refine rest m3 _ h3 (f2.trans f3) (by rw [if_neg i1, List.append_assoc]) ?_
        rw [List.length_append, List.length_append]
        show ((l.length + (tE G kd (tx n) e).length + 1 : Nat) : Int) + 8 ≤ 400
        omega
    · rw [if_neg hkd] at cs ts
      rw [Int.add_zero] at cs
      have := ih m2 is (by rw [cs, ts]; exact h2) f2 (by rw [cs]; exact his)
      exact this
theorem OUc.nil (m0 : MM) : OUc (up m0 101 (up (m0 101) 1 0)) [] := ⟨by rw [up_self, up_self]; rfl, by decide, fun i hi => absurd hi (Nat.not_lt_zero i)⟩
theorem S_tellGrid {G : GV} {g : Nat} (hE : EV E) (hg : isg g) (hγ : γ g = G) (hG : vG G) (hQ : ∀ m1, OUc m1 (tGrid G) → fO m m1 → Q m1 γ t) : TV E (k + 6) 51 [.ref 101, .ref g] m γ t Q := by
  have hle := hG.1.le
  have hgn := gn_le _ hle.1 _ hle.2
  have c3 := cnt3 G (gn G.1 G.2.1)
  have l1 := tLine_len (G := G) (kd := 1) (wl := tx 7) (by decide)
  have l2 := tLine_len (G := G) (kd := 2) (wl := tx 10) (by decide)
  have l3 := tLine_len (G := G) (kd := 3) (wl := tx 11) (by decide)
  have n1 := tNum_len G.1
  have n2 := tNum_len G.2.1
  have t6 : (tx 6).length = 5 := by decide
  have z1 := (cnt_rng G.2.2 1 (gn G.1 G.2.1)).1
  have z2 := (cnt_rng G.2.2 2 (gn G.1 G.2.1)).1
  have z3 := (cnt_rng G.2.2 3 (gn G.1 G.2.1)).1
  refine vc_X4_tellGrid hg ?_
  refine S_addText 6 hE (by decide) (OUc.nil m) (by decide) (fun m1 h1 f1 => ?_)
  rw [List.nil_append] at h1
  refine S_rows hg (fun _ => ?_)
  rw [hγ]
  refine S_addNumber G.1 (by omega) h1 (by omega) (fun m2 h2 f2 => ?_)
  refine S_addByte h2 (by rw [List.length_append]; omega) (by omega) (fun m3 h3 f3 => ?_)
  refine S_columns hg (fun _ => ?_)
  rw [hγ]
  refine S_addNumber G.2.1 (by omega) h3 (by simp only [List.length_append, List.length_cons, List.length_nil]; omega) (fun m4 h4 f4 => ?_)
  refine S_addByte h4 (by simp only [List.length_append, List.length_cons, List.length_nil]; omega) (by omega) (fun m5 h5 f5 => ?_)
  refine S_addLine 7 hE (by decide) (by decide) hg hγ hG (by decide) h5 (by simp only [List.length_append, List.length_cons, List.length_nil]; omega) (fun m6 h6 f6 => ?_)
  refine S_addLine 10 hE (by decide) (by decide) hg hγ hG (by decide) h6 (by simp only [List.length_append, List.length_cons, List.length_nil]; omega) (fun m7 h7 f7 => ?_)
  refine S_addLine 11 hE (by decide) (by decide) hg hγ hG (by decide) h7 (by simp only [List.length_append, List.length_cons, List.length_nil]; omega) (fun m8 h8 f8 => ?_)
  refine hQ m8 h8 (fun b b1 b2 => ?_)
  rw [f8 b b1 b2, f7 b b1 b2, f6 b b1 b2, f5 b b1 b2, f4 b b1 b2, f3 b b1 b2, f2 b b1 b2, f1 b b1 b2, up_ne b1]
theorem TrOK.fO {G : GV} {m1 : MM} (h : TrOK m G) (hf : fO m m1) : TrOK m1 G := by
  unfold TrOK at *
  rw [hf 10 (by decide) (by decide), hf 15 (by decide) (by decide), hf 16 (by decide) (by decide), hf 17 (by decide) (by decide), hf 18 (by decide) (by decide), hf 19 (by decide) (by decide), hf 20 (by decide) (by decide), hf 21 (by decide) (by decide), hf 22 (by decide) (by decide), hf 23 (by decide) (by decide), hf 24 (by decide) (by decide), hf 25 (by decide) (by decide), hf 26 (by decide) (by decide)]
  exact h
theorem cell_lt {G : GV} {r c : Nat} (hr : r < G.1) (hc : c < G.2.1) : r * G.2.1 + c < G.1 * G.2.1 := by
  have : (r + 1) * G.2.1 ≤ G.1 * G.2.1 := Nat.mul_le_mul_right _ hr
  rw [Nat.succ_mul] at this
  omega
theorem S_addPaint {G : GV} {g : Nat} (r a b : Nat) (hg : isg g) (hγ : γ g = G) (hG : vG G) (hT : TrOK m G) (hr : r < G.1) (ha : a < 4) (hb : b < 4) (hO : OUc m l) (hl : l.length + 9 ≤ 400) (hQ : ∀ m1, OUc m1 ((l ++ pk G r a b (2 * G.2.1)) ++ [10]) → fO m m1 → Q m1 γ t) : TV E (k + 3) 54 [.ref 101, .ref 10, .ref g, .int (iI (r : Int)), .int (iI (a : Int)), .int (iI (b : Int))] m γ t Q := by
  have hle := hG.1.le
  have h64 := nC_le64 hG
  refine vc_X4_addPaint hg (by omega) (by omega) (by omega) ?_
  refine upN (n := G.2.1) (P := fun c => ∀ m1, OUc m1 (l ++ pk G r a b (2 * c)) → fO m m1 → hd_X4_addPaint_3 E (k + 2) g (r : Int) (a : Int) (b : Int) (r : Int) (a : Int) (b : Int) (c : Int) m1 γ t Q) (fun m1 h1 f1 => ?_) (fun c hc ih => fun m1 h1 f1 => ?_) 0 (Nat.zero_le _) m (by rw [show pk G r a b (2 * 0) = [] from rfl, List.append_nil]; exact hO) (fun _ _ _ => rfl)
  · refine vc_X4_addPaint_3 hg (by omega) (by omega) (by omega) (by omega) (by omega) (by omega) (by omega) (S_columns hg (fun _ => ?_))
    rw [hγ]
    exact ⟨fun z => absurd z (by omega), fun _ => S_addByte h1 (by rw [List.length_append, pk_len]; omega) (by omega) (fun m2 h2 f2 => hQ m2 h2 (f1.trans f2))⟩
  · have hcl := cell_lt hr hc
    have hn : nC G = 4 * (G.1 * G.2.1) := rfl
    have hs : pk G r a b (2 * (c + 1)) = (pk G r a b (2 * c) ++ [48 + tP G (4 * (r * G.2.1 + c) + a) % 2]) ++ [48 + tP G (4 * (r * G.2.1 + c) + b) % 2] := by
      rw [show 2 * (c + 1) = (2 * c + 1) + 1 by omega]
      show (pk G r a b (2 * c) ++ [48 + tP G (4 * (r * G.2.1 + 2 * c / 2) + (if 2 * c % 2 = 0 then a else b)) % 2]) ++ [48 + tP G (4 * (r * G.2.1 + (2 * c + 1) / 2) + (if (2 * c + 1) % 2 = 0 then a else b)) % 2] = _
      rw [if_pos (by omega), if_neg (by omega), show 2 * c / 2 = c by omega, show (2 * c + 1) / 2 = c by omega]
    have num : ∀ x : Nat, ∃ n : Nat, n < 10 ∧ tP G x % 2 = (n : Int) ∧ tNum n = [48 + tP G x % 2] := fun x => by
      refine ⟨(tP G x % 2).toNat, by omega, by omega, ?_⟩
      unfold tNum
      rw [if_pos (by omega), show (((tP G x % 2).toNat : Nat) : Int) = tP G x % 2 by omega]
    refine vc_X4_addPaint_3 hg (by omega) (by omega) (by omega) (by omega) (by omega) (by omega) (by omega) (S_columns hg (fun _ => ?_))
    rw [hγ]
    refine ⟨fun _ => S_columns hg (fun _ => ?_), fun z => absurd (by omega) z⟩
    rw [hγ]
    have hmul : (r : Int) * (G.2.1 : Int) = ((r * G.2.1 : Nat) : Int) := by rw [Int.natCast_mul]
    obtain ⟨x1, x2, x3, x4⟩ := num (4 * (r * G.2.1 + c) + a)
    obtain ⟨y1, y2, y3, y4⟩ := num (4 * (r * G.2.1 + c) + b)
    refine S_paintAt (4 * (r * G.2.1 + c) + a) (hT.fO f1) hG (by rw [hmul]; omega) (by omega) ?_
    rw [x3]
    refine S_addNumber x1 (by omega) h1 (by rw [List.length_append, pk_len]; omega) (fun m2 h2 f2 => ?_)
    refine S_paintAt (4 * (r * G.2.1 + c) + b) ((hT.fO f1).fO f2) hG (by rw [hmul]; omega) (by omega) ?_
    rw [y3]
    rw [x4] at h2
    refine S_addNumber y1 (by omega) h2 (by rw [List.length_append, List.length_append, pk_len]; show _ + 1 + 2 ≤ 400; omega) (fun m3 h3 f3 => ih m3 ?_ (f1.trans (f2.trans f3)))
    rw [y4] at h3
    rw [hs, ← List.append_assoc, ← List.append_assoc]
    exact h3
theorem S_tellPaint {G : GV} {g : Nat} (hg : isg g) (hγ : γ g = G) (hG : vG G) (hT : TrOK m G) (hQ : ∀ m1, OUc m1 (tPn G G.1) → fO m m1 → Q m1 γ t) : TV E (k + 4) 52 [.ref 101, .ref 10, .ref g] m γ t Q := by
  have hle := hG.1.le
  have lb : ∀ r, r ≤ G.1 → (4 * G.2.1 + 2) * r ≤ 72 := fun r hr => by
    have : (4 * G.2.1 + 2) * r ≤ (4 * 4 + 2) * 4 := Nat.mul_le_mul (by omega) (by omega)
    omega
  refine vc_X4_tellPaint hg ?_
  have f0 : fO m (up m 101 (up (m 101) 1 0)) := fun b b1 b2 => up_ne b1
  refine upN (n := G.1) (P := fun r => ∀ m1, OUc m1 (tPn G r) → fO m m1 → hd_X4_tellPaint_7 E (k + 3) g (r : Int) m1 γ t Q) (fun m1 h1 f1 => ?_) (fun r hr ih => fun m1 h1 f1 => ?_) 0 (Nat.zero_le _) _ (OUc.nil m) f0
  · refine vc_X4_tellPaint_7 hg (by omega) (S_rows hg (fun _ => ?_))
    rw [hγ]
    exact ⟨fun z => absurd z (by omega), fun _ => hQ m1 h1 f1⟩
  · have l1 := tPn_len G r
    have l2 := lb r (by omega)
    refine vc_X4_tellPaint_7 hg (by omega) (S_rows hg (fun _ => ?_))
    rw [hγ]
    refine ⟨fun _ => S_addPaint r 3 0 hg hγ hG (hT.fO f1) hr (by decide) (by decide) h1 (by omega) (fun m2 h2 f2 => ?_), fun z => absurd (by omega) z⟩
    refine S_addPaint r 2 1 hg hγ hG ((hT.fO f1).fO f2) hr (by decide) (by decide) h2 (by rw [List.length_append, List.length_append, pk_len]; show _ + 1 + 9 ≤ 400; omega) (fun m3 h3 f3 => ih m3 h3 (f1.trans (f2.trans f3)))
end TC
noncomputable def v_tell (a : AST) (s w : Int) : Int := ift (isG a.1 s ∧ (w = 0 ∨ w = 1)) (if w = 0 then ((tGrid (a.1 s.toNat)).length : Int) else ((tPn (a.1 s.toNat) (a.1 s.toNat).1).length : Int)) (-2)
noncomputable def n_tell (a : AST) (s w : Int) : AST := ifA (isG a.1 s ∧ (w = 0 ∨ w = 1)) (a.1, a.2.1, a.2.2.1, a.2.2.2.1, if w = 0 then tGrid (a.1 s.toNat) else tPn (a.1 s.toNat) (a.1 s.toNat).1) a
theorem CI.out {m m1 : MM} {γ : GM} {a : AST} {l : List Int} (h : CI m γ a) (hO : OUc m1 l) (hf : fO m m1) : CI m1 γ (a.1, a.2.1, a.2.2.1, a.2.2.2.1, l) := by
  obtain ⟨c1, c2, c3, c4, c5, c6⟩ := h
  refine ⟨c1, ⟨c2.1, c2.2.fO hf⟩, c3.move ⟨fun b h1 h2 => hf b (by omega) (by omega), rfl⟩, ?_, hO, ?_⟩
  · unfold TPc at *
    rw [hf 99 (by decide) (by decide), hf 100 (by decide) (by decide)]
    exact c4
  · unfold ACc at *
    rw [hf 103 (by decide) (by decide), hf 104 (by decide) (by decide)]
    exact c6
theorem C_tell {E : am_E} {k : Nat} {m : MM} {γ : GM} {t : am_H} {a : AST} {Q : Int → MM → GM → am_H → Prop} {s w : Int} (hE : EV E) (hC : CI m γ a) (hs : rJ s) (hw : rJ w) (hQ : ∀ m1 γ1, CI m1 γ1 (n_tell a s w) → rsame m m1 → Q (v_tell a s w) m1 γ1 t) : TI E (k + 7) 174 [.ref 0, .int (iI s), .int (iI w)] m γ t Q := by
  unfold v_tell n_tell at hQ
  have h0 : ¬ (isG a.1 s ∧ (w = 0 ∨ w = 1)) → Q (-2) m γ t := fun h => by
    have := hQ m γ
    rw [ift_f h, ifA_f h] at this
    exact this hC (fun _ _ => rfl)
  refine vc_X8_tell hs hw (S_gridIn hC hs (fun c1 => oN (h0 (fun h => c1 h.1))) (fun c1 => oSm ?_))
  obtain ⟨i1, i2, i3, i4, -⟩ := c1.i hC
  refine ⟨i1, S_isBit hw (fun c2 => b1 ?_) (fun c2 => b0 (h0 (fun h => c2 h.2)))⟩
  rw [ift_t ⟨c1, c2⟩, ifA_t ⟨c1, c2⟩] at hQ
  refine ⟨fun c3 => ?_, fun c3 => ?_⟩
  · rw [if_pos c3, if_pos c3] at hQ
    refine S_tellGrid hE i1 i2 i3 (fun m1 h1 f1 => vc_X4_size ?_)
    show Q (m1 101 1) m1 γ t
    rw [h1.1]
    exact hQ m1 γ (hC.out h1 f1) (fun b hb => f1 b (by omega) (by omega))
  · rw [if_neg c3, if_neg c3] at hQ
    refine vc_X8_traceOf i1 (S_followS hC c1 (fun m1 hC1 hT hf => ⟨rfl, ?_⟩))
    refine S_tellPaint i1 (by rw [up_ne (by omega)]; exact i2) i3 hT (fun m2 h2 f2 => vc_X4_size ?_)
    show Q (m2 101 1) m2 _ t
    rw [h2.1]
    exact hQ m2 _ (hC1.out h2 f2) (fun b hb => by rw [f2 b (by omega) (by omega)]; exact hf b (by omega) (by omega))
