/-! ===== tell: the reference ===== -/
theorem RI.out {m m1 : MM} {a : AST} {l : List Int} (h : RI m a) (hf : fr (194 :: SL) (53 :: SF) m m1) (hO : OUr m1 l) (hl : l.length ≤ 400) : RI m1 (a.1, a.2.1, a.2.2.1, a.2.2.2.1, l) := by
  obtain ⟨h1, h2, h3, h4, h5, h6, h7⟩ := h
  refine ⟨by rw [hf.1 159 (by decide) (by decide)]; exact h1, h2.fr hf (by decide) (by decide), ?_, hO, h5, h6, hl⟩
  unfold TPr
  rw [hf.2 32 (by decide), hf.2 33 (by decide), hf.2 34 (by decide), hf.1 182 (by decide) (by decide)]
  exact h3
theorem OUr.app {m : MM} {l : List Int} {z : Int} (h : OUr m l) : OUr (up (up m 194 (up (m 194) l.length z)) 158 (up (m 158) 53 ((l.length : Int) + 1))) (l ++ [z]) := by
  obtain ⟨h1, h3⟩ := h
  refine ⟨?_, fun i hi => ?_⟩
  · rw [up_self, up_self, List.length_append]
    rfl
  · rw [up_ne (by decide), up_self]
    rw [List.length_append] at hi
    have hi : i < l.length + 1 := hi
    by_cases c : i = l.length
    · subst c
      rw [up_self, List.getElem_append_right (Nat.le_refl _)]
      simp
    · rw [up_ne c, List.getElem_append_left (show i < l.length by omega)]
      exact h3 i (by omega)
theorem fr.app {m m1 : MM} {F : Nat → Int} {v : Int} (h : fr [194] [53] m m1) : fr [194] [53] m (up (up m1 194 F) 158 (up (m1 158) 53 v)) := by
  have h1 : fr [194] [53] m (up m1 194 F) := h.upa 194 (by decide) (by decide)
  have h2 := h1.upf (j := 53) (v := v) (by decide)
  rw [up_ne (show 158 ≠ 194 by decide)] at h2
  exact h2
section RT2
variable {E : am_E} {k : Nat} {m : MM} {γ : GM} {t : am_H} {Q : MM → GM → am_H → Prop} {l : List Int}
theorem S_says (n : Nat) (hE : EV E) (hn : n < 27) (hO : OUr m l) (hl : l.length + (tx n).length ≤ 1000) (hQ : ∀ m1, OUr m1 (l ++ tx n) → fr [194] [53] m m1 → Q m1 γ t) : TV E (k + 4) 303 [.ref 158, .ref (1000000 + 2 * n)] m γ t Q := by
  have h6 := tx_len6 hn
  refine vc_X9_says ⟨n, hn, rfl⟩ ?_
  refine upN (n := (tx n).length) (P := fun j => ∀ m1, OUr m1 (l ++ (tx n).take j) → fr [194] [53] m m1 → hd_X9_says_2 E (k + 3) (1000000 + 2 * n) (j : Int) m1 γ t Q) (fun m1 h1 f1 => ?_) (fun j hj ih => fun m1 h1 f1 => ?_) 0 (Nat.zero_le _) m (by rw [List.take_zero, List.append_nil]; exact hO) fr.refl
  · refine vc_X9_says_2 ⟨n, hn, rfl⟩ (by omega) (S_length hn ⟨fun c => absurd c (by omega), fun _ => hQ m1 ?_ f1⟩)
    rw [List.take_length] at h1
    exact h1
  · have hlen : (l ++ (tx n).take j).length < 1000 := by rw [List.length_append, List.length_take]; omega
    refine vc_X9_says_2 ⟨n, hn, rfl⟩ (by omega) (S_length hn ⟨fun _ => S_charAt hE hn hj (fun hz => ?_), fun c => absurd (by omega) c⟩)
    rw [h1.1, Int.toNat_natCast]
    refine ⟨by omega, by omega, ih _ ?_ f1.app⟩
    rw [take_s hj, ← List.append_assoc]
    exact h1.app
theorem S_saysNumber (n : Nat) (hn : n < 100) (hO : OUr m l) (hl : l.length + 2 ≤ 1000) (hQ : ∀ m1, OUr m1 (l ++ tNum n) → fr [194] [53] m m1 → Q m1 γ t) : TV E (k + 2) 304 [.ref 158, .int (iI (n : Int))] m γ t Q := by
  have one : ∀ (j : Nat) (k' : Nat) (m0 : MM) (l0 : List Int) (Q0 : MM → GM → am_H → Prop), j < 10 → OUr m0 l0 → l0.length < 1000 → (∀ m1, OUr m1 (l0 ++ [48 + (j : Int)]) → fr [194] [53] m0 m1 → Q0 m1 γ t) → TV E (k' + 1) 304 [.ref 158, .int (iI (j : Int))] m0 γ t Q0 := by
    intro j k' m0 l0 Q0 hj h0 hl0 hQ0
    refine vc_X9_saysNumber (by omega) ⟨fun _ => ⟨by omega, ?_⟩, fun c => absurd (by omega) c⟩
    rw [h0.1, Int.toNat_natCast, show (j : Int) % 10 = (j : Int) by omega]
    exact ⟨by omega, by omega, by omega, hQ0 _ h0.app fr.refl.app⟩
  by_cases c : n < 10
  · refine one n (k + 1) m l Q c hO (by omega) (fun m1 h1 f1 => hQ m1 ?_ f1)
    unfold tNum
    rw [if_pos c]
    exact h1
  · refine vc_X9_saysNumber (by omega) ⟨fun z => absurd z (by omega), fun _ => ⟨by omega, ?_⟩⟩
    rw [show (n : Int) / 10 = ((n / 10 : Nat) : Int) by omega]
    refine one (n / 10) k m l _ (by omega) hO (by omega) (fun m1 h1 f1 => ?_)
    have hlen : (l ++ [48 + ((n / 10 : Nat) : Int)]).length = l.length + 1 := by rw [List.length_append]; rfl
    rw [h1.1, Int.toNat_natCast]
    refine ⟨by omega, by omega, by omega, by omega, hQ _ ?_ f1.app⟩
    unfold tNum
    rw [if_neg c, show 48 + (n : Int) % 10 = 48 + ((n % 10 : Nat) : Int) by omega]
    have := h1.app (z := 48 + ((n % 10 : Nat) : Int))
    rw [List.append_assoc] at this
    exact this
theorem S_saysLine {G : GV} {kd : Int} (n : Nat) (hE : EV E) (hn : n < 27) (hw : (tx n).length ≤ 5) (hG : RG m G) (hk : 0 ≤ kd ∧ kd ≤ 3) (hO : OUr m l) (hl : (l.length : Int) + 13 * cnt G.2.2 kd (gn G.1 G.2.1) + 1 ≤ 900) (hQ : ∀ m1, OUr m1 (l ++ tLine G kd (tx n)) → fr [194] [53] m m1 → Q m1 γ t) : TV E (k + 5) 305 [.ref 158, .ref (1000000 + 2 * n), .int (iI kd)] m γ t Q := by
  have hle := hG.le
  have hv := hG.2.2.1
  have hTl := tE_len (G := G) (kd := kd) hw
  have RGm : ∀ m1, fr [194] [53] m m1 → RG m1 G := fun m1 hf => hG.fr hf (by decide) (by decide) (by decide) (by decide) (by decide) (by decide) (by decide)
  have cmono : ∀ e, e ≤ gn G.1 G.2.1 → cnt G.2.2 kd e ≤ cnt G.2.2 kd (gn G.1 G.2.1) := fun e he => by
    have key : ∀ d, cnt G.2.2 kd e ≤ cnt G.2.2 kd (e + d) := by
      intro d
      induction d with
      | zero => exact Int.le_refl _
      | succ d ih => show _ ≤ cnt G.2.2 kd (e + d) + (if G.2.2 (e + d) = kd then 1 else 0); split <;> omega
    have := key (gn G.1 G.2.1 - e)
    rw [show e + (gn G.1 G.2.1 - e) = gn G.1 G.2.1 by omega] at this
    exact this
  have c0 := (cnt_rng G.2.2 kd (gn G.1 G.2.1)).1
  refine vc_X9_saysLine ⟨n, hn, rfl⟩ (by omega) ?_
  refine upN (n := gn G.1 G.2.1) (P := fun e => ∀ m2 (nw : Nat), OUr m2 (l ++ tE G kd (tx n) e) → fr [194] [53] m m2 → ((cnt G.2.2 kd e = 0 ∧ nw = n) ∨ (cnt G.2.2 kd e ≠ 0 ∧ nw = 22)) → hd_X9_saysLine_5 E (k + 4) (1000000 + 2 * n) kd kd (1000000 + 2 * nw) (e : Int) m2 γ t Q) (fun m2 nw h2 f2 hnw => ?_) (fun e he ih => fun m2 nw h2 f2 hnw => ?_) 0 (Nat.zero_le _) m n (by rw [show tE G kd (tx n) 0 = [] from rfl, List.append_nil]; exact hO) fr.refl (Or.inl ⟨rfl, rfl⟩)
  · have hnw27 : nw < 27 := by rcases hnw with q | q <;> omega
    refine vc_X9_saysLine_5 ⟨n, hn, rfl⟩ (by omega) (by omega) ⟨nw, hnw27, rfl⟩ (by omega) ⟨fun z => absurd z (by rw [(RGm m2 f2).1.2.2.1]; omega), fun _ => ?_⟩
    refine S_many (by omega) (RGm m2 f2).1.2.2.1 hle.2.2.2.2.1 ?_
    rw [cnt_how (RGm m2 f2) kd]
    have hte := hTl (gn G.1 G.2.1)
    refine ⟨fun z => hQ m2 ?_ f2, fun z => ?_⟩
    · unfold tLine
      rw [if_pos (by omega)]
      rw [tE_0 _ (by omega)] at h2
      exact h2
    · refine S_says 20 hE (by decide) h2 (by rw [List.length_append]; show _ + 1 ≤ 1000; omega) (fun m3 h3 f3 => hQ m3 ?_ (f2.trans f3))
      unfold tLine
      rw [if_neg (by omega), ← List.append_assoc]
      exact h3
  · have hnw27 : nw < 27 := by rcases hnw with q | q <;> omega
    have hwn : (tx nw).length ≤ 5 := by
      rcases hnw with q | q
      · rw [q.2]; exact hw
      · rw [q.2]; decide
    have ce := cmono (e + 1) (by omega)
    have ce0 := (cnt_rng G.2.2 kd e).1
    have cs : cnt G.2.2 kd (e + 1) = cnt G.2.2 kd e + (if G.2.2 e = kd then 1 else 0) := rfl
    have ts : tE G kd (tx n) (e + 1) = if G.2.2 e = kd then tE G kd (tx n) e ++ ((if cnt G.2.2 kd e = 0 then tx n else [44]) ++ (tNum (gcell G.1 G.2.1 e) ++ (if gbel G.1 G.2.1 e = 0 then tx 8 else tx 9))) else tE G kd (tx n) e := rfl
    refine vc_X9_saysLine_5 ⟨n, hn, rfl⟩ (by omega) (by omega) ⟨nw, hnw27, rfl⟩ (by omega) ⟨fun _ => ⟨by omega, ?_⟩, fun z => absurd (by rw [(RGm m2 f2).1.2.2.1]; omega) z⟩
    rw [Int.toNat_natCast, (RGm m2 f2).2.1 e he]
    refine ⟨fun hkd => ?_, fun hkd => ?_⟩
    · rw [if_pos hkd] at cs ts
      have hte := hTl e
      have hnl := tNum_len (gcell G.1 G.2.1 e)
      have hcl := (bhd_D _ hle.1 _ hle.2.1 e he).1
      have hRC : G.1 * G.2.1 ≤ 4 * 4 := Nat.mul_le_mul hle.1 hle.2.1
      have hbl := gbel_le G.1 G.2.1 e
      refine S_says nw hE hnw27 h2 (by rw [List.length_append]; omega) (fun m3 h3 f3 => ⟨by omega, ?_⟩)
      have f3' := f2.trans f3
      rw [((RGm m3 f3').1.2.2.2.1 e he).1]
      refine S_saysNumber (gcell G.1 G.2.1 e) (by omega) h3 (by simp only [List.length_append]; omega) (fun m4 h4 f4 => ⟨by omega, ?_⟩)
      have f4' := f3'.trans f4
      rw [((RGm m4 f4').1.2.2.2.1 e he).2]
      have hwd : tx nw = (if cnt G.2.2 kd e = 0 then tx n else [44]) := by
        rcases hnw with q | q
        · rw [if_pos q.1, q.2]
        · rw [if_neg q.1, q.2]; rfl
      have fin : ∀ m5 (w : List Int), w = (if gbel G.1 G.2.1 e = 0 then tx 8 else tx 9) → OUr m5 ((((l ++ tE G kd (tx n) e) ++ tx nw) ++ tNum (gcell G.1 G.2.1 e)) ++ w) → fr [194] [53] m m5 → hd_X9_saysLine_5 E (k + 4) (1000000 + 2 * n) kd kd 1000044 ((e : Int) + 1) m5 γ t Q := by
        intro m5 w hw5 h5 f5
        have := ih m5 22 (by
          rw [ts]
          rw [hw5, hwd, List.append_assoc, List.append_assoc, List.append_assoc] at h5
          exact h5) f5 (Or.inr ⟨by omega, rfl⟩)
        exact this
      refine ⟨fun c1 => S_says 23 hE (by decide) h4 (by simp only [List.length_append]; show _ + 6 ≤ 1000; omega) (fun m5 h5 f5 => fin m5 _ (by rw [if_neg (by omega)]; rfl) h5 (f4'.trans f5)), fun c1 => S_says 24 hE (by decide) h4 (by simp only [List.length_append]; show _ + 6 ≤ 1000; omega) (fun m5 h5 f5 => fin m5 _ (by rw [if_pos (by omega)]; rfl) h5 (f4'.trans f5))⟩
    · rw [if_neg hkd] at cs ts
      rw [Int.add_zero] at cs
      have := ih m2 nw (by rw [ts]; exact h2) f2 (by rw [cs]; exact hnw)
      exact this
theorem S_saysPaint {G : GV} (hG : RG m G) (hS : RS m G) (hO : OUr m []) (hQ : ∀ m1, OUr m1 (tPn G G.1) → fr [194] [53] m m1 → Q m1 γ t) : TV E k 306 [.ref 158] m γ t Q := by
  have hle := hG.le
  have hv := hG.2.2.1
  have RGm : ∀ m1, fr [194] [53] m m1 → RG m1 G := fun m1 hf => hG.fr hf (by decide) (by decide) (by decide) (by decide) (by decide) (by decide) (by decide)
  have RSm : ∀ m1, fr [194] [53] m m1 → RS m1 G := fun m1 hf => hS.fr hf (by decide) (by decide) (by decide) (by decide) (by decide) (by decide)
  have lb : ∀ r, r ≤ G.1 → (4 * G.2.1 + 2) * r ≤ 72 := fun r hr => by
    have : (4 * G.2.1 + 2) * r ≤ (4 * 4 + 2) * 4 := Nat.mul_le_mul (by omega) (by omega)
    omega
  have hn : nC G = 4 * (G.1 * G.2.1) := rfl
  -- one half row
  have half : ∀ (r h a b : Nat) (l0 : List Int) (m0 : MM), r < G.1 → h < 2 → (h = 0 → a = 3 ∧ b = 0) → (h = 1 → a = 2 ∧ b = 1) → OUr m0 l0 → l0.length ≤ 100 → fr [194] [53] m m0 → (∀ m1, OUr m1 ((l0 ++ pk G r a b (2 * G.2.1)) ++ [10]) → fr [194] [53] m m1 → hd_X9_saysPaint_2 E k ((2 * r + h : Nat) + 1 : Int) m1 γ t Q) → hd_X9_saysPaint_14 E k ((2 * r + h : Nat) : Int) 0 m0 γ t Q := by
    intro r h a b l0 m0 hr hh h0 h1 hO0 hl0 f0 nxt
    refine upN (n := 2 * G.2.1) (P := fun j => ∀ m1, OUr m1 (l0 ++ pk G r a b j) → fr [194] [53] m m1 → hd_X9_saysPaint_14 E k ((2 * r + h : Nat) : Int) (j : Int) m1 γ t Q) (fun m1 g1 f1 => ?_) (fun j hj ih => fun m1 g1 f1 => ?_) 0 (Nat.zero_le _) m0 (by rw [show pk G r a b 0 = [] from rfl, List.append_nil]; exact hO0) f0
    · have hlen : (l0 ++ pk G r a b (2 * G.2.1)).length < 1000 := by rw [List.length_append, pk_len]; omega
      refine vc_X9_saysPaint_14 (by omega) (by omega) ?_
      show _ ∧ _
      rw [(RGm m1 f1).1.2.1, g1.1, Int.toNat_natCast]
      exact ⟨by omega, fun z => absurd z (by omega), fun _ => ⟨by omega, by omega, nxt _ g1.app f1.app⟩⟩
    · have hlen : (l0 ++ pk G r a b j).length < 1000 := by rw [List.length_append, pk_len]; omega
      have hcl := cell_lt (G := G) hr (show j / 2 < G.2.1 by omega)
      have hmul : (((2 * r + h : Nat) : Int) / 2) * (G.2.1 : Int) = ((r * G.2.1 : Nat) : Int) := by
        rw [show ((2 * r + h : Nat) : Int) / 2 = (r : Int) by omega, Int.natCast_mul]
      have leaf : ∀ cc : Nat, cc < 4 → (if j % 2 = 0 then a else b) = cc → (0 ≤ 4 * ((((2 * r + h : Nat) : Int) / 2) * (G.2.1 : Int) + (j : Int) / 2) + (cc : Int) ∧ 4 * ((((2 * r + h : Nat) : Int) / 2) * (G.2.1 : Int) + (j : Int) / 2) + (cc : Int) < 64) ∧ (0 ≤ m1 167 (4 * ((((2 * r + h : Nat) : Int) / 2) * (G.2.1 : Int) + (j : Int) / 2) + (cc : Int)).toNat ∧ ((0 ≤ (((l0 ++ pk G r a b j).length : Nat) : Int) ∧ (((l0 ++ pk G r a b j).length : Nat) : Int) < 1000) ∧ (rJ (48 + m1 167 (4 * ((((2 * r + h : Nat) : Int) / 2) * (G.2.1 : Int) + (j : Int) / 2) + (cc : Int)).toNat % 2) ∧ (rJ ((((l0 ++ pk G r a b j).length : Nat) : Int) + 1) ∧ hd_X9_saysPaint_14 E k ((2 * r + h : Nat) : Int) ((j : Int) + 1) (up (up m1 194 (up (m1 194) (l0 ++ pk G r a b j).length (48 + m1 167 (4 * ((((2 * r + h : Nat) : Int) / 2) * (G.2.1 : Int) + (j : Int) / 2) + (cc : Int)).toNat % 2))) 158 (up (m1 158) 53 ((((l0 ++ pk G r a b j).length : Nat) : Int) + 1))) γ t Q)))) := by
        intro cc hcc hsel
        rw [hmul, show (4 * (((r * G.2.1 : Nat) : Int) + (j : Int) / 2) + (cc : Int)).toNat = 4 * (r * G.2.1 + j / 2) + cc by omega, ((RSm m1 f1).1 (4 * (r * G.2.1 + j / 2) + cc) (by omega)).2.1]
        have hp := (tP_rg hv (show 4 * (r * G.2.1 + j / 2) + cc < nC G by omega)).1
        have h64 := hle.2.2.2.2.2
        refine ⟨by omega, hp, by omega, by omega, by omega, ih _ ?_ f1.app⟩
        have e : pk G r a b (j + 1) = pk G r a b j ++ [48 + tP G (4 * (r * G.2.1 + j / 2) + cc) % 2] := by
          show pk G r a b j ++ [48 + tP G (4 * (r * G.2.1 + j / 2) + (if j % 2 = 0 then a else b)) % 2] = _
          rw [hsel]
        rw [e, ← List.append_assoc]
        exact g1.app
      refine vc_X9_saysPaint_14 (by omega) (by omega) ?_
      show _ ∧ _
      rw [(RGm m1 f1).1.2.1, g1.1, Int.toNat_natCast]
      refine ⟨by omega, fun _ => ⟨by omega, fun c1 => ⟨by omega, fun c2 => ⟨by omega, by omega, ?_⟩, fun c2 => ⟨by omega, by omega, ?_⟩⟩, fun c1 => ⟨by omega, fun c2 => ⟨by omega, by omega, ?_⟩, fun c2 => ⟨by omega, by omega, ?_⟩⟩⟩, fun z => absurd (by omega) z⟩
      · exact leaf 3 (by decide) (by rw [if_pos (by omega)]; exact (h0 (by omega)).1)
      · exact leaf 0 (by decide) (by rw [if_neg (by omega)]; exact (h0 (by omega)).2)
      · exact leaf 2 (by decide) (by rw [if_pos (by omega)]; exact (h1 (by omega)).1)
      · exact leaf 1 (by decide) (by rw [if_neg (by omega)]; exact (h1 (by omega)).2)
  refine vc_X9_saysPaint ?_
  refine upN (n := G.1) (P := fun r => ∀ m1, OUr m1 (tPn G r) → fr [194] [53] m m1 → hd_X9_saysPaint_2 E k ((2 * r : Nat) : Int) m1 γ t Q) (fun m1 g1 f1 => ?_) (fun r hr ih => fun m1 g1 f1 => ?_) 0 (Nat.zero_le _) m hO fr.refl
  · refine vc_X9_saysPaint_2 (by omega) ?_
    show _ ∧ _
    rw [(RGm m1 f1).1.1]
    exact ⟨by omega, fun z => absurd z (by omega), fun _ => hQ m1 g1 f1⟩
  · have l1 := tPn_len G r
    have l2 := lb r (by omega)
    refine vc_X9_saysPaint_2 (by omega) ?_
    show _ ∧ _
    rw [(RGm m1 f1).1.1]
    refine ⟨by omega, fun _ => ?_, fun z => absurd (by omega) z⟩
    refine half r 0 3 0 (tPn G r) m1 hr (by decide) (fun _ => ⟨rfl, rfl⟩) (fun q => absurd q (by decide)) g1 (by omega) f1 (fun m2 g2 f2 => ?_)
    refine vc_X9_saysPaint_2 (by omega) ?_
    show _ ∧ _
    rw [(RGm m2 f2).1.1]
    refine ⟨by omega, fun _ => ?_, fun z => absurd (by omega) z⟩
    have := half r 1 2 1 ((tPn G r ++ pk G r 3 0 (2 * G.2.1)) ++ [10]) m2 hr (by decide) (fun q => absurd q (by decide)) (fun _ => ⟨rfl, rfl⟩) g2 (by rw [List.length_append, List.length_append, pk_len]; show _ + 1 ≤ 100; omega) f2 (fun m3 g3 f3 => ?_)
    · exact this
    · have := ih m3 g3 f3
      rw [show ((2 * (r + 1) : Nat) : Int) = ((2 * r + 1 : Nat) + 1 : Int) by omega] at this
      exact this
end RT2
theorem tGrid_len {G : GV} (hG : vG G) : (tGrid G).length ≤ 400 := by
  have hgn := gn_le _ hG.1.le.1 _ hG.1.le.2
  have c3 := cnt3 G (gn G.1 G.2.1)
  have l1 := tLine_len (G := G) (kd := 1) (wl := tx 7) (by decide)
  have l2 := tLine_len (G := G) (kd := 2) (wl := tx 10) (by decide)
  have l3 := tLine_len (G := G) (kd := 3) (wl := tx 11) (by decide)
  have n1 := tNum_len G.1
  have n2 := tNum_len G.2.1
  have t6 : (tx 6).length = 5 := by decide
  unfold tGrid
  simp only [List.length_append, List.length_cons, List.length_nil]
  omega
theorem R_tell {E : am_E} {k : Nat} {m : MM} {γ : GM} {t : am_H} {a : AST} {Q : Int → MM → GM → am_H → Prop} {s w : Int} (hE : EV E) (hR : RI m a) (hs : rJ s) (hw : rJ w) (hQ : ∀ m1, clS m m1 → RI m1 (n_tell a s w) → Q (v_tell a s w) m1 γ t) : TI E (k + 7) 307 [.ref 158, .int (iI s), .int (iI w)] m γ t Q := by
  unfold v_tell n_tell at hQ
  have h0 : ¬ (isG a.1 s ∧ (w = 0 ∨ w = 1)) → ∀ m1, fr SL SF m m1 → Q (-2) m1 γ t := fun h m1 hf => by
    have := hQ m1
    rw [ift_f h, ifA_f h] at this
    exact this (hf.cl (by decide)) (hR.move hf)
  refine vc_X9_tell hs hw (S_in (by omega) (by decide) (by decide) (fun c2 => b1 ?_) (fun c2 => b0 (h0 (fun h => c2 (by omega)) m fr.refl)))
  refine S_isLaid hR hs (fun c => b0 (h0 (fun h => c h.1) m fr.refl)) (fun m1 c hf hG hS hP => b1 ?_)
  have hok : isG a.1 s ∧ (w = 0 ∨ w = 1) := ⟨c, by omega⟩
  rw [ift_t hok, ifA_t hok] at hQ
  clear h0
  generalize hGG : a.1 s.toNat = G at *
  have hle := hG.le
  have hv := hG.2.2.1
  have f2 : fr [194] [53] m1 (up m1 158 (up (m1 158) 53 0)) := fr.refl.upf (by decide)
  have o2 : OUr (up m1 158 (up (m1 158) 53 0)) [] := ⟨by rw [up_self, up_self]; rfl, fun i hi => absurd hi (Nat.not_lt_zero i)⟩
  have RGm : ∀ m3, fr [194] [53] m1 m3 → RG m3 G := fun m3 h3 => hG.fr h3 (by decide) (by decide) (by decide) (by decide) (by decide) (by decide) (by decide)
  have RSm : ∀ m3, fr [194] [53] m1 m3 → RS m3 G := fun m3 h3 => hS.fr h3 (by decide) (by decide) (by decide) (by decide) (by decide) (by decide)
  have fin : ∀ m3 (l : List Int), OUr m3 l → l.length ≤ 400 → fr [194] [53] m1 m3 → RI m3 (a.1, a.2.1, a.2.2.1, a.2.2.2.1, l) ∧ clS m m3 := fun m3 l h3 hl f3 => by
    have ff : fr (194 :: SL) (53 :: SF) m m3 := (hf.mono (by decide) (by decide)).trans (f3.mono (by decide) (by decide))
    exact ⟨hR.out ff h3 hl, ff.cl (by decide)⟩
  refine ⟨fun c1 => ?_, fun c1 => ?_⟩
  · rw [if_neg (by omega), if_neg (by omega)] at hQ
    have lb : (4 * G.2.1 + 2) * G.1 ≤ 72 := by
      have : (4 * G.2.1 + 2) * G.1 ≤ (4 * 4 + 2) * 4 := Nat.mul_le_mul (by omega) (by omega)
      omega
    refine S_saysPaint (RGm _ f2) (RSm _ f2) o2 (fun m3 h3 f3 => ?_)
    obtain ⟨r1, r2⟩ := fin m3 _ h3 (by rw [tPn_len]; omega) (f2.trans f3)
    rw [h3.1]
    exact hQ m3 r2 r1
  · rw [if_pos (by omega), if_pos (by omega)] at hQ
    have hgl := tGrid_len hv
    have c3 := cnt3 G (gn G.1 G.2.1)
    have l1 := tLine_len (G := G) (kd := 1) (wl := tx 7) (by decide)
    have l2 := tLine_len (G := G) (kd := 2) (wl := tx 10) (by decide)
    have l3 := tLine_len (G := G) (kd := 3) (wl := tx 11) (by decide)
    have n1 := tNum_len G.1
    have n2 := tNum_len G.2.1
    have t6 : (tx 6).length = 5 := by decide
    have z1 := (cnt_rng G.2.2 1 (gn G.1 G.2.1)).1
    have z2 := (cnt_rng G.2.2 2 (gn G.1 G.2.1)).1
    have z3 := (cnt_rng G.2.2 3 (gn G.1 G.2.1)).1
    refine S_says 18 hE (by decide) o2 (by decide) (fun m3 h3 f3 => ?_)
    have h3 : OUr m3 (tx 6) := h3
    have g3 := f2.trans f3
    rw [(RGm m3 g3).1.1]
    refine S_saysNumber G.1 (by omega) h3 (by omega) (fun m4 h4 f4 => ?_)
    have g4 := g3.trans f4
    refine S_says 19 hE (by decide) h4 (by simp only [List.length_append]; show _ + 1 ≤ 1000; omega) (fun m5 h5 f5 => ?_)
    have h5 : OUr m5 ((tx 6 ++ tNum G.1) ++ [32]) := h5
    have g5 := g4.trans f5
    rw [(RGm m5 g5).1.2.1]
    refine S_saysNumber G.2.1 (by omega) h5 (by simp only [List.length_append, List.length_cons, List.length_nil]; omega) (fun m6 h6 f6 => ?_)
    have g6 := g5.trans f6
    refine S_says 20 hE (by decide) h6 (by simp only [List.length_append, List.length_cons, List.length_nil]; show _ + 1 ≤ 1000; omega) (fun m7 h7 f7 => ?_)
    have h7 : OUr m7 ((((tx 6 ++ tNum G.1) ++ [32]) ++ tNum G.2.1) ++ [59]) := h7
    have g7 := g6.trans f7
    refine S_saysLine (G := G) 21 hE (by decide) (by decide) (RGm m7 g7) (by decide) h7 (by simp only [List.length_append, List.length_cons, List.length_nil]; omega) (fun m8 h8 f8 => ?_)
    have h8 : OUr m8 (((((tx 6 ++ tNum G.1) ++ [32]) ++ tNum G.2.1) ++ [59]) ++ tLine G 1 (tx 7)) := h8
    have g8 := g7.trans f8
    refine S_saysLine (G := G) 25 hE (by decide) (by decide) (RGm m8 g8) (by decide) h8 (by simp only [List.length_append, List.length_cons, List.length_nil]; omega) (fun m9 h9 f9 => ?_)
    have h9 : OUr m9 ((((((tx 6 ++ tNum G.1) ++ [32]) ++ tNum G.2.1) ++ [59]) ++ tLine G 1 (tx 7)) ++ tLine G 2 (tx 10)) := h9
    have g9 := g8.trans f9
    refine S_saysLine (G := G) 26 hE (by decide) (by decide) (RGm m9 g9) (by decide) h9 (by simp only [List.length_append, List.length_cons, List.length_nil]; omega) (fun m10 h10 f10 => ?_)
    have h10 : OUr m10 (tGrid G) := h10
    obtain ⟨r1, r2⟩ := fin m10 _ h10 hgl (g9.trans f10)
    rw [h10.1]
    exact hQ m10 r2 r1
