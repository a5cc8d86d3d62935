/-! ===== trees: the class ===== -/
theorem lc0 {x : Int} : lcI x 0 = 0 ↔ x = 0 := by
  unfold lcI
  split
  · omega
  · split <;> omega
theorem up2 {m : MM} {a b r c : Nat} {v : Int} (w : Nat) : up m (w + a) (up (m (w + a)) b v) (w + r) c = if r = a ∧ c = b then v else m (w + r) c := by
  by_cases h1 : r = a
  · rw [h1, up_self]
    by_cases h2 : c = b
    · rw [h2, up_self, if_pos ⟨rfl, rfl⟩]
    · rw [up_ne h2, if_neg (fun z => h2 z.2)]
  · rw [up_ne (by omega), if_neg (fun z => h1 z.1)]
/-- on the way through a step of the elimination -/
def vl (A : Nat → Nat → Int) (k i j r c : Nat) : Int := if k < r ∧ k < c ∧ (r < i ∨ (r = i ∧ c < j)) then mi A (k + 1) r c else mi A k r c
theorem vl_old {A : Nat → Nat → Int} {k i j r c : Nat} (h : ¬ (k < r ∧ k < c ∧ (r < i ∨ (r = i ∧ c < j)))) : vl A k i j r c = mi A k r c := if_neg h
theorem vl_new {A : Nat → Nat → Int} {k i j r c : Nat} (h : k < r ∧ k < c ∧ (r < i ∨ (r = i ∧ c < j))) : vl A k i j r c = mi A (k + 1) r c := if_pos h
theorem vl_row {A : Nat → Nat → Int} {k i z r c : Nat} (hc : c < z) : vl A k i z r c = vl A k (i + 1) (k + 1) r c := by
  unfold vl
  by_cases h : k < r ∧ k < c ∧ (r < i ∨ (r = i ∧ c < z))
  · rw [if_pos h, if_pos (by omega)]
  · rw [if_neg h, if_neg (by omega)]
/-- joined by the least -/
def mgL (K : Nat → Nat) (a b c : Nat) : Nat := if K c = K a ∨ K c = K b then (if K a ≤ K b then K a else K b) else K c
def CLb (G : GV) (e : Nat) (K : Nat → Nat) : Prop := (∀ c, c < 16 → K c ≤ c ∧ K (K c) = K c) ∧ (∀ j, j < e → G.2.2 j = 3 → K (gcell G.1 G.2.1 j) = K (bhd G.1 G.2.1 j)) ∧ ∀ T : Nat → Nat, (∀ j, j < e → G.2.2 j = 3 → T (gcell G.1 G.2.1 j) = T (bhd G.1 G.2.1 j)) → ∀ c, c < 16 → T (K c) = T c
theorem CLb_0 (G : GV) : CLb G 0 (fun c => c) := ⟨fun c _ => ⟨Nat.le_refl c, rfl⟩, fun j hj => absurd hj (Nat.not_lt_zero j), fun T _ c _ => rfl⟩
theorem CLb_n {G : GV} {e : Nat} {K : Nat → Nat} (h : CLb G e K) (hk : G.2.2 e ≠ 3) : CLb G (e + 1) K := by
  refine ⟨h.1, fun j hj h3 => ?_, fun T hT => h.2.2 T (fun j hj => hT j (by omega))⟩
  by_cases c : j = e
  · rw [c] at h3; exact absurd h3 hk
  · exact h.2.1 j (by omega) h3
theorem CLb_s {G : GV} {e : Nat} {K : Nat → Nat} (h : CLb G e K) (ha : gcell G.1 G.2.1 e < 16) (hb : bhd G.1 G.2.1 e < 16) (hk : G.2.2 e = 3) : CLb G (e + 1) (mgL K (gcell G.1 G.2.1 e) (bhd G.1 G.2.1 e)) := by
  obtain ⟨h1, h2, h3⟩ := h
  generalize hA : gcell G.1 G.2.1 e = a at *
  generalize hB : bhd G.1 G.2.1 e = b at *
  have ka := h1 a ha
  have kb := h1 b hb
  refine ⟨fun c hc => ?_, fun j hj hj3 => ?_, fun T hT c hc => ?_⟩
  · have kc := h1 c hc
    unfold mgL
    by_cases q : K c = K a ∨ K c = K b
    · rw [if_pos q]
      by_cases q2 : K a ≤ K b
      · rw [if_pos q2, ka.2, if_pos (Or.inl rfl)]
        exact ⟨by omega, rfl⟩
      · rw [if_neg q2, kb.2, if_pos (Or.inr rfl)]
        exact ⟨by omega, rfl⟩
    · rw [if_neg q, kc.2, if_neg q]
      exact ⟨kc.1, rfl⟩
  · by_cases q : j = e
    · subst q
      rw [hA, hB]
      unfold mgL
      rw [if_pos (Or.inl rfl), if_pos (Or.inr rfl)]
    · unfold mgL
      rw [h2 j (by omega) hj3]
  · have hT' := h3 T (fun j hj => hT j (by omega))
    have hab : T a = T b := by
      have := hT e (by omega) hk
      rw [hA, hB] at this
      exact this
    have ta := hT' a ha
    have tb := hT' b hb
    have tc := hT' c hc
    unfold mgL
    by_cases q : K c = K a ∨ K c = K b
    · rw [if_pos q]
      have : T c = T a := by
        rcases q with q | q
        · rw [← tc, q, ta]
        · rw [← tc, q, tb, hab]
      split
      · rw [ta, this]
      · rw [tb, this, hab]
    · rw [if_neg q]
      exact tc
theorem CLb_GL {G : GV} (hG : vG G) {K : Nat → Nat} (h : CLb G (gn G.1 G.2.1) K) : GL G (G.1 * G.2.1) K := by
  have hle := hG.1.le
  have hRC : G.1 * G.2.1 ≤ 4 * 4 := Nat.mul_le_mul hle.1 hle.2
  refine ⟨fun c hc => ?_, h.2.1, fun T hT c hc => h.2.2 T hT c (by omega)⟩
  have := h.1 c (by omega)
  exact ⟨by omega, this.2⟩
theorem te_rg (p q a b : Nat) : -1 ≤ te p q a b ∧ te p q a b ≤ 1 := by
  unfold te
  rcases io01 a p with ⟨h1, e1⟩ | ⟨h1, e1⟩ <;> rcases io01 a q with ⟨h2, e2⟩ | ⟨h2, e2⟩ <;> rcases io01 b p with ⟨h3, e3⟩ | ⟨h3, e3⟩ <;> rcases io01 b q with ⟨h4, e4⟩ | ⟨h4, e4⟩ <;> rw [e1, e2, e3, e4] <;> decide
/-- as the rows are changed -/
theorem te_ups {p q r c : Nat} (hpq : p ≠ q) (x : Int) (x1 x2 x3 : Int) (h1 : x1 = if r = p ∧ c = p then x + 1 else x) (h2 : x2 = if r = q ∧ c = q then x1 + 1 else x1) (h3 : x3 = if r = p ∧ c = q then x2 - 1 else x2) : (if r = q ∧ c = p then x3 - 1 else x3) = x + te p q r c := by
  unfold te
  rcases io01 r p with ⟨a, ea⟩ | ⟨a, ea⟩ <;> rcases io01 r q with ⟨b, eb⟩ | ⟨b, eb⟩ <;> rcases io01 c p with ⟨d, ed⟩ | ⟨d, ed⟩ <;> rcases io01 c q with ⟨f, ef⟩ | ⟨f, ef⟩ <;> rw [ea, eb, ed, ef] <;> (split at h1 <;> split at h2 <;> split at h3 <;> split <;> omega)
section CT
variable {E : am_E} {k : Nat} {m : MM} {γ : GM} {t : am_H}
theorem S_cellBehind {Q : Int → MM → GM → am_H → Prop} {G : GV} {g : Nat} (e : Nat) (hg : isg g) (hγ : γ g = G) (hG : vG G) (he : e < gn G.1 G.2.1) (hQ : Q (bhd G.1 G.2.1 e : Int) m γ t) : TI E (k + 2) 16 [.ref g, .int (iI (e : Int))] m γ t Q := by
  have hle := hG.1.le
  have hgn := gn_le _ hle.1 _ hle.2
  have hRC : G.1 * G.2.1 ≤ 4 * 4 := Nat.mul_le_mul hle.1 hle.2
  obtain ⟨b1, b2⟩ := bhd_D _ hle.1 _ hle.2 e he
  refine vc_X2_cellBehind hg (by omega) (S_cellOf e hg rfl (by rw [hγ]; exact he) (fun hcl => S_belowOf e hg rfl (by rw [hγ]; exact he) (fun hbl => ?_)))
  rw [hγ] at hcl hbl ⊢
  refine ⟨fun c => ?_, fun c => ?_⟩
  · have e1 : gBy (G.2.1 : Int) (gcell G.1 G.2.1 e : Int) 1 = (bhd G.1 G.2.1 e : Int) := by
      unfold gBy bhd
      rw [if_neg (show ¬ (1 : Int) = 0 by decide), if_pos rfl, if_neg (show ¬ gbel G.1 G.2.1 e = 1 by omega)]
      omega
    refine S_cellBeyond hg (by omega) (by omega) (by rw [hγ, e1]; omega) ?_
    rw [hγ, e1]
    exact hQ
  · have e1 : gBy (G.2.1 : Int) (gcell G.1 G.2.1 e : Int) 2 = (bhd G.1 G.2.1 e : Int) := by
      unfold gBy bhd
      rw [if_neg (show ¬ (2 : Int) = 0 by decide), if_neg (show ¬ (2 : Int) = 1 by decide), if_pos rfl, if_pos (show gbel G.1 G.2.1 e = 1 by omega)]
      omega
    refine S_cellBeyond hg (by omega) (by omega) (by rw [hγ, e1]; omega) ?_
    rw [hγ, e1]
    exact hQ
theorem S_minT {Q : Int → MM → GM → am_H → Prop} {x y : Int} (hx : rJ x) (hy : rJ y) (hQ : Q (if x ≤ y then x else y) m γ t) : TI E k 312 [.int (iI x), .int (iI y)] m γ t Q := by
  refine vc_J9_min_7cf53 hx hy ⟨fun c => ?_, fun c => ?_⟩
  · rw [if_pos c] at hQ; exact hQ
  · rw [if_neg c] at hQ; exact hQ
theorem S_mergeK {Q : MM → GM → am_H → Prop} {G : GV} {g : Nat} {K : Nat → Nat} (e : Nat) (hg : isg g) (hγ : γ g = G) (hG : vG G) (he : e < gn G.1 G.2.1) (hK : CLb G e K) (hm : ∀ c, c < 16 → m 81 c = (K c : Int)) (hQ : ∀ F : Nat → Int, (∀ c, c < 16 → F c = (mgL K (gcell G.1 G.2.1 e) (bhd G.1 G.2.1 e) c : Int)) → Q (up m 81 F) γ t) : TV E (k + 3) 17 [.ref 80, .ref g, .int (iI (e : Int))] m γ t Q := by
  have hle := hG.1.le
  have hgn := gn_le _ hle.1 _ hle.2
  have hRC : G.1 * G.2.1 ≤ 4 * 4 := Nat.mul_le_mul hle.1 hle.2
  obtain ⟨b1, b2⟩ := bhd_D _ hle.1 _ hle.2 e he
  have ka := (hK.1 (gcell G.1 G.2.1 e) (by omega)).1
  have kb := (hK.1 (bhd G.1 G.2.1 e) (by omega)).1
  refine vc_X2_merge hg (by omega) (S_cellOf e hg rfl (by rw [hγ]; exact he) (fun hcl => ?_))
  rw [hγ] at hcl ⊢
  refine S_at 16 rfl rfl rfl (by decide) (by omega) (fun _ => ?_)
  rw [atn_in (by omega), hm _ (by omega)]
  refine S_cellBehind e hg hγ hG he (S_at 16 rfl rfl rfl (by decide) (by omega) (fun _ => ?_))
  rw [atn_in (by omega), hm _ (by omega)]
  refine S_minT (by omega) (by omega) ?_
  generalize hA : gcell G.1 G.2.1 e = a at *
  generalize hB : bhd G.1 G.2.1 e = b at *
  have hmin : (if ((K a : Nat) : Int) ≤ ((K b : Nat) : Int) then ((K a : Nat) : Int) else ((K b : Nat) : Int)) = ((if K a ≤ K b then K a else K b : Nat) : Int) := by
    by_cases q : K a ≤ K b
    · rw [if_pos q, if_pos (by omega)]
    · rw [if_neg q, if_neg (by omega)]
  rw [hmin]
  have hmr : (if K a ≤ K b then K a else K b) < 16 := by split <;> omega
  generalize hl : (if K a ≤ K b then K a else K b) = l at *
  have w := upN (n := 16) (P := fun j => ∀ F : Nat → Int, (∀ c, c < 16 → F c = (if c < j then (mgL K a b c : Int) else (K c : Int))) → hd_X2_merge_38 E (k + 2) g (e : Int) (K a : Int) (K b : Int) (l : Int) (j : Int) (up m 81 F) γ t Q) (fun F hF => ?_) (fun j hj ih => fun F hF => ?_) 0 (Nat.zero_le _) (m 81) (fun c hc => by rw [if_neg (Nat.not_lt_zero c)]; exact hm c hc)
  · rw [up_id] at w
    exact w
  · exact vc_X2_merge_38 hg (by omega) (by omega) (by omega) (by omega) (by omega) ⟨fun z => absurd z (by omega), fun _ => hQ F (fun c hc => by rw [hF c hc, if_pos hc])⟩
  · have kj := (hK.1 j hj).1
    have e1 : F j = (K j : Int) := by rw [hF j hj, if_neg (by omega)]
    refine vc_X2_merge_38 hg (by omega) (by omega) (by omega) (by omega) (by omega) ⟨fun _ => ⟨by omega, ?_⟩, fun z => absurd (by omega) z⟩
    rw [Int.toNat_natCast, up_self, e1, up_up]
    have put : (K j = K a ∨ K j = K b) → hd_X2_merge_38 E (k + 2) g (e : Int) (K a : Int) (K b : Int) (l : Int) ((j : Int) + 1) (up m 81 (up F j (l : Int))) γ t Q := fun q => ih (up F j (l : Int)) (fun c hc => by
      by_cases d : c = j
      · subst d
        rw [up_self, if_pos (by omega)]
        unfold mgL
        rw [if_pos q, hl]
      · rw [up_ne d, hF c hc]
        by_cases d2 : c < j
        · rw [if_pos d2, if_pos (by omega)]
        · rw [if_neg d2, if_neg (by omega)])
    refine ⟨fun c => ⟨by omega, put (Or.inl (by omega))⟩, fun c => ⟨by omega, fun c2 => ⟨by omega, put (Or.inr (by omega))⟩, fun c2 => ih F (fun x hx => ?_)⟩⟩
    rw [hF x hx]
    by_cases d : x = j
    · subst d
      rw [if_neg (by omega), if_pos (by omega)]
      unfold mgL
      rw [if_neg (fun q => q.elim (fun q => c (by omega)) (fun q => c2 (by omega)))]
    · by_cases d2 : x < j
      · rw [if_pos d2, if_pos (by omega)]
      · rw [if_neg d2, if_neg (by omega)]
theorem S_renumber {Q : Int → MM → GM → am_H → Prop} {K : Nat → Nat} (N : Nat) (hN : N ≤ 16) (hK : ∀ c, c < 16 → K c ≤ c ∧ K (K c) = K c) (hm : ∀ c, c < 16 → m 81 c = (K c : Int)) (hQ : ∀ F : Nat → Int, (∀ c, c < N → F c = (rk K (K c) : Int)) → Q (rk K N : Int) (up m 81 F) γ t) : TI E (k + 1) 18 [.ref 80, .int (iI (N : Int))] m γ t Q := by
  have hrk : ∀ n, rk K n ≤ n := by
    intro n
    induction n with
    | zero => exact Nat.le_refl 0
    | succ n ih => show rk K n + _ ≤ n + 1; split <;> omega
  refine vc_X2_renumber (by omega) ?_
  have w := upN (n := N) (P := fun j => ∀ F : Nat → Int, (∀ c, c < 16 → F c = (if c < j then (rk K (K c) : Int) else (K c : Int))) → hd_X2_renumber_4 E k (N : Int) (N : Int) (rk K j : Int) (j : Int) (up m 81 F) γ t Q) (fun F hF => ?_) (fun j hj ih => fun F hF => ?_) 0 (Nat.zero_le _) (m 81) (fun c hc => by rw [if_neg (Nat.not_lt_zero c)]; exact hm c hc)
  · rw [up_id] at w
    exact w
  · have := hrk N
    exact vc_X2_renumber_4 (by omega) (by omega) (by omega) (by omega) ⟨fun z => absurd z (by omega), fun _ => hQ F (fun c hc => by rw [hF c (by omega), if_pos hc])⟩
  · have := hrk j
    have kj := hK j (by omega)
    have e1 : F j = (K j : Int) := by rw [hF j (by omega), if_neg (by omega)]
    refine vc_X2_renumber_4 (by omega) (by omega) (by omega) (by omega) ⟨fun _ => ⟨fun _ => ⟨by omega, ?_⟩, fun z => absurd (by omega) z⟩, fun z => absurd (by omega) z⟩
    rw [Int.toNat_natCast, up_self, e1]
    have fl : ∀ v : Int, v = (rk K (K j) : Int) → ∀ c, c < 16 → up F j v c = (if c < j + 1 then (rk K (K c) : Int) else (K c : Int)) := fun v hv c hc => by
      by_cases d : c = j
      · subst d
        rw [up_self, if_pos (by omega), hv]
      · rw [up_ne d, hF c hc]
        by_cases d2 : c < j
        · rw [if_pos d2, if_pos (by omega)]
        · rw [if_neg d2, if_neg (by omega)]
    refine ⟨fun c => ⟨by omega, ?_⟩, fun c => ⟨by omega, S_at 16 rfl rfl rfl (by decide) (by omega) (fun _ => ⟨by omega, ?_⟩)⟩⟩
    · have c : K j = j := by omega
      have e2 : rk K (j + 1) = rk K j + 1 := by
        show rk K j + (if K j = j then 1 else 0) = _
        rw [if_pos c]
      have := ih (up F j (rk K j : Int)) (fl _ (by rw [c]))
      rw [e2] at this
      rw [up_up]
      exact this
    · have c : K j ≠ j := fun q => c (by omega)
      have e2 : rk K (j + 1) = rk K j := by
        show rk K j + (if K j = j then 1 else 0) = _
        rw [if_neg c]
        rfl
      rw [up_self, atn_in (by omega), hF (K j) (by omega), if_pos (by omega), kj.2, up_up]
      have := ih (up F j (rk K (K j) : Int)) (fl _ rfl)
      rw [e2] at this
      exact this
theorem S_tie {Q : MM → GM → am_H → Prop} {A : Nat → Nat → Int} (p q : Nat) (hp : p < 16) (hq : q < 16) (hA : ∀ r c, r < 16 → c < 16 → m (83 + r) c = A r c ∧ -1000 ≤ A r c ∧ A r c ≤ 1000) (hQ : ∀ m1, (∀ b, ¬ (83 ≤ b ∧ b ≤ 98) → m1 b = m b) → (∀ r c, r < 16 → c < 16 → m1 (83 + r) c = A r c + te p q r c) → Q m1 γ t) : TV E k 19 [.ref 80, .int (iI (p : Int)), .int (iI (q : Int))] m γ t Q := by
  refine vc_X2_tie (by omega) (by omega) ⟨fun z => absurd z (by omega), fun _ => ⟨fun z => absurd z (by omega), fun _ => ⟨fun _ => ⟨fun _ => ⟨fun c => ?_, fun c => ?_⟩, fun z => absurd (by omega) z⟩, fun z => absurd (by omega) z⟩⟩⟩
  · have c : p = q := by omega
    subst c
    refine hQ m (fun _ _ => rfl) (fun r x hr hx => ?_)
    rw [(hA r x hr hx).1]
    unfold te
    have : io r p - io r p = 0 := by omega
    rw [this, Int.zero_mul, Int.add_zero]
  · have hpq : p ≠ q := fun z => c (by omega)
    rw [Int.toNat_natCast, Int.toNat_natCast]
    refine ⟨by omega, by omega, by omega, ?_, fun m1 h1 => ⟨by omega, by omega, by omega, ?_, fun m2 h2 => ⟨by omega, by omega, by omega, ?_, fun m3 h3 => ⟨by omega, by omega, by omega, ?_, fun m4 h4 => ?_⟩⟩⟩⟩
    · have := hA p p hp hp
      omega
    · rw [h1, up2, if_neg (fun z => hpq z.1.symm)]
      have := hA q q hq hq
      omega
    · rw [h2, up2, if_neg (fun z => hpq z.1), h1, up2, if_neg (fun z => hpq z.2.symm)]
      have := hA p q hp hq
      omega
    · rw [h3, up2, if_neg (fun z => hpq z.1.symm), h2, up2, if_neg (fun z => hpq z.2), h1, up2, if_neg (fun z => hpq z.1.symm)]
      have := hA q p hq hp
      omega
    · refine hQ m4 (fun b hb => ?_) (fun r x hr hx => ?_)
      · rw [h4, up_ne (by omega), h3, up_ne (by omega), h2, up_ne (by omega), h1, up_ne (by omega)]
      · rw [h4, up2]
        have a0 := (hA r x hr hx).1
        rw [← a0]
        have w := te_ups (r := r) (c := x) hpq (m (83 + r) x) (m1 (83 + r) x) (m2 (83 + r) x) (m3 (83 + r) x) ?_ ?_ ?_
        · rw [← w]
          by_cases d : r = q ∧ x = p
          · rw [if_pos d, if_pos d, d.1, d.2]
          · rw [if_neg d, if_neg d]
        · rw [h1, up2]
          by_cases d : r = p ∧ x = p
          · rw [if_pos d, if_pos d, d.1, d.2]
          · rw [if_neg d, if_neg d]
        · rw [h2, up2]
          by_cases d : r = q ∧ x = q
          · rw [if_pos d, if_pos d, d.1, d.2]
          · rw [if_neg d, if_neg d]
        · rw [h3, up2]
          by_cases d : r = p ∧ x = q
          · rw [if_pos d, if_pos d, d.1, d.2]
          · rw [if_neg d, if_neg d]
theorem S_detC {Q : Int → MM → GM → am_H → Prop} {A : Nat → Nat → Int} (z : Nat) (hz : z ≤ 15) (hL : LO A z) (hA : ∀ r c, r < 16 → c < 16 → m (83 + r) c = A r c) (hQ : ∀ m1, (∀ b, ¬ (83 ≤ b ∧ b ≤ 98) → m1 b = m b) → Q (dt z A) m1 γ t) : TL E k 20 [.ref 80, .int (iI (z : Int))] m γ t Q := by
  refine vc_X2_determinant (by omega) ⟨fun c => ?_, fun c => ⟨fun _ => ?_, fun w => absurd (by omega) w⟩⟩
  · have : z = 0 := by omega
    subst this
    exact hQ m (fun _ _ => rfl)
  have big : ∀ d s, s + 1 + d = z → ∀ m1 : MM, EI A z s → (∀ b, ¬ (83 ≤ b ∧ b ≤ 98) → m1 b = m b) → (∀ r c, s ≤ r → r < z → s ≤ c → c < z → m1 (83 + r) c = mi A s r c) → dt s A ≤ 43046721 → hd_X2_determinant_18 E k (z : Int) (z : Int) (dt s A) (s : Int) m1 γ t Q := by
    intro d
    induction d with
    | zero =>
      intro s hs m1 h1 h2 h3 h4
      have hd := h1.1
      refine vc_X2_determinant_18 (by omega) (by omega) (by omega) (by omega) ⟨by omega, fun w => absurd w (by omega), fun _ => ⟨by omega, by omega, ?_⟩⟩
      rw [show ((z : Int) - 1).toNat = s by omega, h3 s s (Nat.le_refl _) (by omega) (Nat.le_refl _) (by omega), mi_dt, show s + 1 = z by omega]
      exact hQ m1 h2
    | succ d ih =>
      intro s hs m1 h1 h2 h3 h4
      have hd := h1.1
      have e0 : m1 (83 + s) s = mi A s s s := h3 s s (Nat.le_refl _) (by omega) (Nat.le_refl _) (by omega)
      have hpr := h1.rg hL (Nat.le_refl s) (show s < z by omega) (show s < z by omega)
      refine vc_X2_determinant_18 (by omega) (by omega) (by omega) (by omega) ⟨by omega, fun _ => ⟨by omega, by omega, ?_⟩, fun w => absurd (by omega) w⟩
      rw [Int.toNat_natCast, e0]
      refine ⟨fun c => ?_, fun c => ?_⟩
      · have c := lc0.mp c
        rw [mi_dt] at c
        have := hQ m1 h2
        rw [(EI_z h1 (by omega) c).2] at this
        exact this
      · have hp0 : mi A s s s ≠ 0 := fun q => c (lc0.mpr q)
        have hE := EI_s hL h1 (show s < z by omega) (by rw [← mi_dt]; exact hp0)
        -- rows
        have rows : ∀ i, i ≤ z → s + 1 ≤ i → ∀ m2 : MM, (∀ b, ¬ (83 ≤ b ∧ b ≤ 98) → m2 b = m b) → (∀ r c, s ≤ r → r < z → s ≤ c → c < z → m2 (83 + r) c = vl A s i (s + 1) r c) → hd_X2_determinant_53 E k (z : Int) (z : Int) (dt s A) (s : Int) (mi A s s s) (i : Int) m2 γ t Q := by
          refine upN (fun _ m2 f2 v2 => ?_) (fun i hi ih2 => fun hsi m2 f2 v2 => ?_)
          · refine vc_X2_determinant_53 (by omega) (by omega) (by omega) (by omega) (by omega) (by omega) ⟨fun w => absurd w (by omega), fun _ => ?_⟩
            have := ih (s + 1) (by omega) m2 hE f2 (fun r c hr hrz hc hcz => by rw [v2 r c (by omega) hrz (by omega) hcz, vl_new (by omega)]) (by rw [← mi_dt]; omega)
            rw [← mi_dt] at this
            exact this
          · refine vc_X2_determinant_53 (by omega) (by omega) (by omega) (by omega) (by omega) (by omega) ⟨fun _ => ?_, fun w => absurd (by omega) w⟩
            have cols : ∀ j, j ≤ z → s + 1 ≤ j → ∀ m3 : MM, (∀ b, ¬ (83 ≤ b ∧ b ≤ 98) → m3 b = m b) → (∀ r c, s ≤ r → r < z → s ≤ c → c < z → m3 (83 + r) c = vl A s i j r c) → hd_X2_determinant_65 E k (z : Int) (z : Int) (dt s A) (s : Int) (mi A s s s) (i : Int) (j : Int) m3 γ t Q := by
              refine upN (fun _ m3 f3 v3 => ?_) (fun j hj ih3 => fun hsj m3 f3 v3 => ?_)
              · refine vc_X2_determinant_65 (by omega) (by omega) (by omega) (by omega) (by omega) (by omega) (by omega) ⟨fun w => absurd w (by omega), fun _ => ?_⟩
                exact ih2 (by omega) m3 f3 (fun r c hr hrz hc hcz => by rw [v3 r c hr hrz hc hcz, vl_row hcz])
              · have r1 := h1.rg hL (show s ≤ i by omega) (show i < z by omega) (show j < z by omega)
                have r2 := h1.rg hL (show s ≤ i by omega) (show i < z by omega) (show s < z by omega)
                have r3 := h1.rg hL (Nat.le_refl s) (show s < z by omega) (show j < z by omega)
                have r4 := hE.rg hL (show s + 1 ≤ i by omega) (show i < z by omega) (show j < z by omega)
                have p1 := mul_rgT r1 hpr
                have p2 := mul_rgT r2 r3
                refine vc_X2_determinant_65 (by omega) (by omega) (by omega) (by omega) (by omega) (by omega) (by omega) ⟨fun _ => ⟨by omega, by omega, by omega, by omega, by omega, by omega, by omega, ?_⟩, fun w => absurd (by omega) w⟩
                rw [Int.toNat_natCast, Int.toNat_natCast, Int.toNat_natCast, v3 i j (by omega) (by omega) (by omega) (by omega), v3 i s (by omega) (by omega) (by omega) (by omega), v3 s j (by omega) (by omega) (by omega) (by omega), vl_old (by omega), vl_old (by omega), vl_old (by omega), h1.step i j]
                refine ⟨by omega, by omega, by omega, by omega, fun m4 h4' => ?_⟩
                refine ih3 (by omega) m4 (fun b hb => by rw [h4', up_ne (by omega)]; exact f3 b hb) (fun r c hr hrz hc hcz => ?_)
                rw [h4', up2]
                by_cases d1 : r = i ∧ c = j
                · rw [if_pos d1, d1.1, d1.2, vl_new (by omega)]
                · rw [if_neg d1, v3 r c hr hrz hc hcz]
                  unfold vl
                  by_cases d2 : s < r ∧ s < c ∧ (r < i ∨ (r = i ∧ c < j))
                  · rw [if_pos d2, if_pos (by omega)]
                  · rw [if_neg d2, if_neg (by omega)]
            have := cols (s + 1) (by omega) (Nat.le_refl _) m2 f2 v2
            exact this
        have := rows (s + 1) (by omega) (Nat.le_refl _) m1 h2 (fun r c hr hrz hc hcz => by rw [h3 r c hr hrz hc hcz, vl_old (by omega)])
        exact this
  have := big (z - 1) 0 (by omega) m (EI_0 hL) (fun _ _ => rfl) (fun r c _ hr _ hc => by rw [hA r c (by omega) (by omega), mi_0]) (by show (1 : Int) ≤ _; omega)
  exact this
end CT
