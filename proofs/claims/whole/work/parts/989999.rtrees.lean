/-! ===== trees: the reference ===== -/
def lbN (L : Nat → Nat) (a b c : Nat) : Nat := if L c = L b then L a else L c
def KB (G : GV) : Nat → Nat → Nat
  | 0 => fun c => c
  | e + 1 => if G.2.2 e = 3 then lbN (KB G e) (gcell G.1 G.2.1 e) (bhd G.1 G.2.1 e) else KB G e
def RLb (G : GV) (N e : Nat) (K : Nat → Nat) : Prop := (∀ c, c < N → K c < N ∧ K (K c) = K c) ∧ (∀ j, j < e → G.2.2 j = 3 → K (gcell G.1 G.2.1 j) = K (bhd G.1 G.2.1 j)) ∧ ∀ T : Nat → Nat, (∀ j, j < e → G.2.2 j = 3 → T (gcell G.1 G.2.1 j) = T (bhd G.1 G.2.1 j)) → ∀ c, c < N → T (K c) = T c
theorem KB_ok {G : GV} (hG : vG G) : ∀ e, e ≤ gn G.1 G.2.1 → RLb G (G.1 * G.2.1) e (KB G e)
  | 0, _ => ⟨fun c hc => ⟨hc, rfl⟩, fun j hj => absurd hj (Nat.not_lt_zero j), fun T _ c _ => rfl⟩
  | e + 1, he => by
    obtain ⟨ha, hb⟩ := bhd_D _ hG.1.le.1 _ hG.1.le.2 e (by omega)
    obtain ⟨h1, h2, h3⟩ := KB_ok hG e (by omega)
    show RLb G (G.1 * G.2.1) (e + 1) (if G.2.2 e = 3 then lbN (KB G e) (gcell G.1 G.2.1 e) (bhd G.1 G.2.1 e) else KB G e)
    by_cases hk : G.2.2 e = 3
    · rw [if_pos hk]
      generalize hA : gcell G.1 G.2.1 e = a at *
      generalize hB : bhd G.1 G.2.1 e = b at *
      generalize KB G e = K at *
      have ka := h1 a ha
      have kb := h1 b hb
      refine ⟨fun c hc => ?_, fun j hj hj3 => ?_, fun T hT c hc => ?_⟩
      · have kc := h1 c hc
        unfold lbN
        by_cases q : K c = K b
        · rw [if_pos q, ka.2]
          refine ⟨ka.1, ?_⟩
          split <;> rfl
        · rw [if_neg q, kc.2, if_neg q]
          exact ⟨kc.1, rfl⟩
      · by_cases q : j = e
        · subst q
          rw [hA, hB]
          unfold lbN
          rw [if_pos rfl]
          split <;> rfl
        · unfold lbN
          rw [h2 j (by omega) hj3]
      · have hT' := h3 T (fun j hj => hT j (by omega))
        have hab : T a = T b := by
          have := hT e (by omega) hk
          rw [hA, hB] at this
          exact this
        unfold lbN
        by_cases q : K c = K b
        · rw [if_pos q, hT' a ha, hab, ← hT' b hb, ← q, hT' c hc]
        · rw [if_neg q]
          exact hT' c hc
    · rw [if_neg hk]
      refine ⟨h1, fun j hj hj3 => ?_, fun T hT => h3 T (fun j hj => hT j (by omega))⟩
      by_cases q : j = e
      · rw [q] at hj3; exact absurd hj3 hk
      · exact h2 j (by omega) hj3
theorem te_row {F : Nat → Int} {p q r c : Nat} (hpq : p ≠ q) (hp : p < 16) (hq : q < 16) (hc : c < 16) {X1 X2 X3 X4 : Nat → Int} (h1 : X1 = up F (17 * p) (F (17 * p) + 1)) (h2 : X2 = up X1 (17 * q) (X1 (17 * q) + 1)) (h3 : X3 = up X2 (16 * p + q) (X2 (16 * p + q) - 1)) (h4 : X4 = up X3 (16 * q + p) (X3 (16 * q + p) - 1)) : X4 (16 * r + c) = F (16 * r + c) + te p q r c := by
  have w := te_ups (r := r) (c := c) hpq (F (16 * r + c)) (X1 (16 * r + c)) (X2 (16 * r + c)) (X3 (16 * r + c)) ?_ ?_ ?_
  · rw [← w, h4]
    by_cases d : r = q ∧ c = p
    · rw [if_pos d, d.1, d.2, up_self]
    · rw [if_neg d, up_ne (by omega)]
  · rw [h1]
    by_cases d : r = p ∧ c = p
    · rw [if_pos d, show 16 * r + c = 17 * p by omega, up_self]
    · rw [if_neg d, up_ne (by omega)]
  · rw [h2]
    by_cases d : r = q ∧ c = q
    · rw [if_pos d, show 16 * r + c = 17 * q by omega, up_self]
    · rw [if_neg d, up_ne (by omega)]
  · rw [h3]
    by_cases d : r = p ∧ c = q
    · rw [if_pos d, d.1, d.2, up_self]
    · rw [if_neg d, up_ne (by omega)]
theorem ub {F : Nat → Int} {i : Nat} {v B : Int} (hF : ∀ j, j < 256 → -B ≤ F j ∧ F j ≤ B) (hi : i < 256) (hv : v = F i + 1 ∨ v = F i - 1) : ∀ j, j < 256 → -(B + 1) ≤ up F i v j ∧ up F i v j ≤ B + 1 := by
  intro j hj
  have h1 := hF j hj
  have h2 := hF i hi
  by_cases c : j = i
  · rw [c, up_self]
    omega
  · rw [up_ne c]
    omega
section RT
variable {E : am_E} {k : Nat} {m : MM} {γ : GM} {t : am_H} {a : AST} {Q : Int → MM → GM → am_H → Prop}
theorem S_laysBlocks {G : GV} (hG : RG m G) (hQ : ∀ m1, fr [188] [] m m1 → (∀ c, c < G.1 * G.2.1 → m1 188 c = (rk (KB G (gn G.1 G.2.1)) (KB G (gn G.1 G.2.1) c) : Int)) → Q (rk (KB G (gn G.1 G.2.1)) (G.1 * G.2.1) : Int) m1 γ t) : TI E (k + 1) 275 [.ref 158] m γ t Q := by
  have hle := hG.le
  have hv := hG.2.2.1
  have hRC : G.1 * G.2.1 ≤ 4 * 4 := Nat.mul_le_mul hle.1 hle.2.1
  have hN : 0 < G.1 * G.2.1 := Nat.mul_pos hle.2.2.1 hle.2.2.2.1
  have RGm : ∀ m1, fr [188] [] m m1 → RG m1 G := fun m1 hf => hG.fr hf (by decide) (by decide) (by decide) (by decide) (by decide) (by decide) (by decide)
  have fu8 : ∀ m1 (F : Nat → Int), fr [188] [] m m1 → fr [188] [] m (up m1 188 F) := fun m1 F hf => hf.upa 188 (by decide) (by decide)
  have hKE := KB_ok hv _ (Nat.le_refl (gn G.1 G.2.1))
  refine vc_X9_laysBlocks ?_
  refine upN (n := G.1 * G.2.1) (P := fun e => ∀ m1 : MM, fr [188] [] m m1 → (∀ c, c < e → m1 188 c = (c : Int)) → hd_X9_laysBlocks_2 E k (e : Int) m1 γ t Q) ?_ (fun e he ih => ?_) 0 (Nat.zero_le _) m fr.refl (fun c hc => absurd hc (Nat.not_lt_zero c))
  · intro m1 f1 k1
    refine vc_X9_laysBlocks_2 (by omega) (S_cells (RGm m1 f1).1 hle.1 hle.2.1 ⟨fun w => absurd w (by omega), fun _ => ?_⟩)
    refine upN (n := gn G.1 G.2.1) (P := fun e => ∀ m1 : MM, fr [188] [] m m1 → (∀ c, c < G.1 * G.2.1 → m1 188 c = (KB G e c : Int)) → hd_X9_laysBlocks_25 E k (e : Int) m1 γ t Q) ?_ (fun e he ih => ?_) 0 (Nat.zero_le _) m1 f1 k1
    · intro m1 f1 k1
      refine vc_X9_laysBlocks_25 (by omega) ⟨fun w => absurd w (by rw [(RGm m1 f1).1.2.2.1]; omega), fun _ => ?_⟩
      generalize hK : KB G (gn G.1 G.2.1) = K at *
      -- numbers
      refine upN (n := G.1 * G.2.1) (P := fun b => ∀ m2 : MM, fr [188] [] m m2 → (∀ c, c < G.1 * G.2.1 → m2 188 c = if K c < b then (rk K (K c) : Int) + 100 else (K c : Int)) → hd_X9_laysBlocks_123 E k (rk K b : Int) (b : Int) m2 γ t Q) ?_ (fun b hb ih => ?_) 0 (Nat.zero_le _) m1 f1 (fun c hc => by rw [if_neg (Nat.not_lt_zero _)]; exact k1 c hc)
      · intro m2 f2 k2
        have := rk_le (K := K) (G.1 * G.2.1)
        refine vc_X9_laysBlocks_123 (by omega) (by omega) (S_cells (RGm m2 f2).1 hle.1 hle.2.1 ⟨fun w => absurd w (by omega), fun _ => ?_⟩)
        refine upN (n := G.1 * G.2.1) (P := fun j => ∀ m3 : MM, fr [188] [] m m3 → (∀ c, c < G.1 * G.2.1 → m3 188 c = if c < j then (rk K (K c) : Int) else (rk K (K c) : Int) + 100) → hd_X9_laysBlocks_195 E k (rk K (G.1 * G.2.1) : Int) (j : Int) m3 γ t Q) ?_ (fun j hj ih => ?_) 0 (Nat.zero_le _) m2 f2 (fun c hc => by rw [if_neg (Nat.not_lt_zero _), k2 c hc, if_pos (hKE.1 c hc).1])
        · intro m3 f3 k3
          exact vc_X9_laysBlocks_195 (by omega) (by omega) (S_cells (RGm m3 f3).1 hle.1 hle.2.1 ⟨fun w => absurd w (by omega), fun _ => hQ m3 f3 (fun c hc => by rw [k3 c hc, if_pos hc])⟩)
        · intro m3 f3 k3
          have hr := rk_le (K := K) (K j)
          have hkj := (hKE.1 j hj).1
          have e3 := k3 j hj
          rw [if_neg (Nat.lt_irrefl j)] at e3
          refine vc_X9_laysBlocks_195 (by omega) (by omega) (S_cells (RGm m3 f3).1 hle.1 hle.2.1 ⟨fun _ => ⟨by omega, by omega, ?_⟩, fun w => absurd (by omega) w⟩)
          rw [Int.toNat_natCast, e3]
          refine ⟨by omega, ih _ (fu8 _ _ f3) (fun c hc => ?_)⟩
          rw [up_self]
          by_cases d : c = j
          · subst d
            rw [up_self, if_pos (by omega)]
            omega
          · rw [up_ne d, k3 c hc]
            by_cases d2 : c < j
            · rw [if_pos d2, if_pos (by omega)]
            · rw [if_neg d2, if_neg (by omega)]
      · intro m2 f2 k2
        have hrb := rk_le (K := K) b
        refine vc_X9_laysBlocks_123 (by omega) (by omega) (S_cells (RGm m2 f2).1 hle.1 hle.2.1 ⟨fun _ => ?_, fun w => absurd (by omega) w⟩)
        refine upN (n := G.1 * G.2.1) (P := fun j => ∀ (m3 : MM) (is : Int), fr [188] [] m m3 → (∀ c, c < G.1 * G.2.1 → m3 188 c = if K c < b ∨ (K c = b ∧ c < j) then (rk K (K c) : Int) + 100 else (K c : Int)) → ((is = 0 ∧ ∀ c, c < j → K c ≠ b) ∨ (is = 1 ∧ ∃ c, c < j ∧ K c = b)) → hd_X9_laysBlocks_136 E k (rk K b : Int) (b : Int) is (j : Int) m3 γ t Q) ?_ (fun j hj ih2 => ?_) 0 (Nat.zero_le _) m2 0 f2 (fun c hc => by
          rw [k2 c hc]
          by_cases d : K c < b
          · rw [if_pos d, if_pos (Or.inl d)]
          · rw [if_neg d, if_neg (by omega)]) (Or.inl ⟨rfl, fun c hc => absurd hc (Nat.not_lt_zero c)⟩)
        · intro m3 is f3 k3 his
          have fin : ∀ c, c < G.1 * G.2.1 → m3 188 c = if K c < b + 1 then (rk K (K c) : Int) + 100 else (K c : Int) := fun c hc => by
            rw [k3 c hc]
            by_cases d : K c < b + 1
            · rw [if_pos d, if_pos (by omega)]
            · rw [if_neg d, if_neg (by omega)]
          have hrs : rk K (b + 1) = rk K b + (if K b = b then 1 else 0) := rfl
          refine vc_X9_laysBlocks_136 (by omega) (by omega) (by omega) (by omega) (S_cells (RGm m3 f3).1 hle.1 hle.2.1 ⟨fun w => absurd w (by omega), fun _ => ⟨fun z => ?_, fun z => ?_⟩⟩)
          · have hnb : K b ≠ b := by
              rcases his with q | q
              · exact q.2 b hb
              · omega
            have := ih m3 f3 fin
            rw [hrs, if_neg hnb] at this
            exact this
          · have hnb : K b = b := by
              rcases his with q | ⟨-, c, c1, c2⟩
              · omega
              · have := (hKE.1 c c1).2
                rw [c2] at this
                exact this
            have := ih m3 f3 fin
            rw [hrs, if_pos hnb] at this
            exact this
        · intro m3 is f3 k3 his
          have hr := rk_le (K := K) (K j)
          have hkj := (hKE.1 j hj).1
          have e3 := k3 j hj
          refine vc_X9_laysBlocks_136 (by omega) (by omega) (by omega) (by omega) (S_cells (RGm m3 f3).1 hle.1 hle.2.1 ⟨fun _ => ⟨by omega, ?_⟩, fun w => absurd (by omega) w⟩)
          rw [Int.toNat_natCast]
          refine ⟨fun z => ⟨by omega, by omega, ?_⟩, fun z => ?_⟩
          · have hjb : K j = b := by
              by_cases d : K j < b ∨ (K j = b ∧ j < j)
              · rw [if_pos d] at e3
                omega
              · rw [if_neg d] at e3
                omega
            refine ih2 _ 1 (fu8 _ _ f3) (fun c hc => ?_) (Or.inr ⟨rfl, j, by omega, hjb⟩)
            rw [up_self]
            by_cases d : c = j
            · subst d
              rw [up_self, if_pos (by omega), hjb]
            · rw [up_ne d, k3 c hc]
              by_cases d2 : K c < b ∨ (K c = b ∧ c < j)
              · rw [if_pos d2, if_pos (by omega)]
              · rw [if_neg d2, if_neg (by omega)]
          · have hjb : K j ≠ b := fun q => z (by
              rw [if_neg (by omega)] at e3
              omega)
            refine ih2 m3 is f3 (fun c hc => ?_) ?_
            · rw [k3 c hc]
              by_cases d2 : K c < b ∨ (K c = b ∧ c < j)
              · rw [if_pos d2, if_pos (by omega)]
              · rw [if_neg d2, if_neg (fun q => d2 (by
                  rcases q with q | ⟨q1, q2⟩
                  · exact Or.inl q
                  · refine Or.inr ⟨q1, ?_⟩
                    have : c ≠ j := fun w => hjb (w ▸ q1)
                    omega))]
            · rcases his with q | ⟨q1, c, q2, q3⟩
              · refine Or.inl ⟨q.1, fun c hc => ?_⟩
                by_cases d : c = j
                · rw [d]; exact hjb
                · exact q.2 c (by omega)
              · exact Or.inr ⟨q1, c, by omega, q3⟩
    · intro m1 f1 k1
      have hR1 := RGm m1 f1
      obtain ⟨c1, c2⟩ := bhd_D _ hle.1 _ hle.2.1 e he
      obtain ⟨s1, s2⟩ := hR1.1.2.2.2.1 e he
      have hKe := KB_ok hv e (by omega)
      have ka := (hKe.1 _ c1).1
      have kb := (hKe.1 _ c2).1
      have ks : KB G (e + 1) = if G.2.2 e = 3 then lbN (KB G e) (gcell G.1 G.2.1 e) (bhd G.1 G.2.1 e) else KB G e := rfl
      refine vc_X9_laysBlocks_25 (by omega) ⟨fun _ => S_behind hR1.1 hle.1 hle.2.1 he ⟨by
        show 0 ≤ ((bhd G.1 G.2.1 e : Nat) : Int) ∧ ((bhd G.1 G.2.1 e : Nat) : Int) < 16
        omega, by omega, ?_⟩, fun w => absurd (by rw [hR1.1.2.2.1]; omega) w⟩
      simp only [Int.toNat_natCast]
      rw [s1]
      simp only [Int.toNat_natCast]
      rw [show gcell G.1 G.2.1 e + (if gbel G.1 G.2.1 e = 1 then G.2.1 else 1) = bhd G.1 G.2.1 e from rfl, k1 _ c1, k1 _ c2]
      refine ⟨by omega, ?_⟩
      by_cases hk : G.2.2 e = 3
      · rw [if_pos hk] at ks
        refine upN (n := G.1 * G.2.1) (P := fun j => ∀ m2 : MM, fr [188] [] m m2 → (∀ c, c < G.1 * G.2.1 → m2 188 c = if c < j then (KB G (e + 1) c : Int) else (KB G e c : Int)) → hd_X9_laysBlocks_59 E k (e : Int) (KB G e (bhd G.1 G.2.1 e) : Int) (KB G e (gcell G.1 G.2.1 e) : Int) (j : Int) m2 γ t Q) ?_ (fun j hj ih2 => ?_) 0 (Nat.zero_le _) m1 f1 (fun c hc => by rw [if_neg (Nat.not_lt_zero _)]; exact k1 c hc)
        · intro m2 f2 k2
          exact vc_X9_laysBlocks_59 (by omega) (by omega) (by omega) (by omega) (S_cells (RGm m2 f2).1 hle.1 hle.2.1 ⟨fun w => absurd w (by omega), fun _ => ih m2 f2 (fun c hc => by rw [k2 c hc, if_pos hc])⟩)
        · intro m2 f2 k2
          have kj := (hKe.1 j hj).1
          have e2 := k2 j hj
          rw [if_neg (Nat.lt_irrefl j)] at e2
          refine vc_X9_laysBlocks_59 (by omega) (by omega) (by omega) (by omega) (S_cells (RGm m2 f2).1 hle.1 hle.2.1 ⟨fun _ => ⟨by omega, ?_⟩, fun w => absurd (by omega) w⟩)
          rw [Int.toNat_natCast, (RGm m2 f2).2.1 e he, Int.toNat_natCast, e2]
          have put : ∀ v : Int, v = (KB G (e + 1) j : Int) → hd_X9_laysBlocks_59 E k (e : Int) (KB G e (bhd G.1 G.2.1 e) : Int) (KB G e (gcell G.1 G.2.1 e) : Int) ((j : Int) + 1) (up m2 188 (up (m2 188) j v)) γ t Q := fun v hv2 => ih2 _ (fu8 _ _ f2) (fun c hc => by
            rw [up_self]
            by_cases d : c = j
            · subst d
              rw [up_self, if_pos (by omega), hv2]
            · rw [up_ne d, k2 c hc]
              by_cases d2 : c < j
              · rw [if_pos d2, if_pos (by omega)]
              · rw [if_neg d2, if_neg (by omega)])
          refine ⟨fun _ => ⟨by omega, fun z => ⟨by omega, put _ ?_⟩, fun z => ⟨by omega, by omega, put _ ?_⟩⟩, fun w => absurd hk w⟩
          · rw [ks]
            unfold lbN
            rw [if_pos (by omega)]
          · rw [ks]
            unfold lbN
            rw [if_neg (fun q => z (by omega))]
      · rw [if_neg hk] at ks
        refine vc_X9_laysBlocks_59 (by omega) (by omega) (by omega) (by omega) (S_cells hR1.1 hle.1 hle.2.1 ⟨fun _ => ⟨by omega, ?_⟩, fun w => absurd (by omega) w⟩)
        rw [Int.toNat_natCast, hR1.2.1 e he]
        exact ⟨fun w => absurd w hk, fun _ => ih m1 f1 (fun c hc => by rw [ks]; exact k1 c hc)⟩
  · intro m1 f1 k1
    refine vc_X9_laysBlocks_2 (by omega) (S_cells (RGm m1 f1).1 hle.1 hle.2.1 ⟨fun _ => ⟨by omega, ?_⟩, fun w => absurd (by omega) w⟩)
    rw [Int.toNat_natCast]
    refine ih _ (fu8 _ _ f1) (fun c hc => ?_)
    rw [up_self]
    by_cases d : c = e
    · rw [d, up_self]
    · rw [up_ne d]
      exact k1 c (by omega)
theorem S_detR {A : Nat → Nat → Int} (z : Nat) (hz : z ≤ 15) (hL : LO A z) (hA : ∀ r c, r < 16 → c < 16 → m 189 (16 * r + c) = A r c) (hQ : ∀ m1, fr [189] [] m m1 → Q (dt z A) m1 γ t) : TL E k 276 [.ref 158, .int (iI (z : Int))] m γ t Q := by
  refine vc_X9_determinant (by omega) ?_
  have ix : ∀ i j : Nat, ((16 * (i : Int)) + (j : Int)).toNat = 16 * i + j := fun i j => by omega
  rcases Nat.eq_zero_or_pos z with hz0 | hz0
  · subst hz0
    exact vc_X9_determinant_8 (by omega) (by omega) (by omega) (by omega) (by omega) ⟨by omega, fun w => absurd w (by omega), fun _ => ⟨fun _ => hQ m fr.refl, fun w => absurd rfl w⟩⟩
  have big : ∀ d s, s + 1 + d = z → ∀ m1 : MM, EI A z s → fr [189] [] m m1 → (∀ r c, s ≤ r → r < z → s ≤ c → c < z → m1 189 (16 * r + c) = mi A s r c) → dt s A ≤ 43046721 → hd_X9_determinant_8 E k (z : Int) (z : Int) (dt s A) 1 (s : Int) m1 γ t Q := by
    intro d
    induction d with
    | zero =>
      intro s hs m1 h1 h2 h3 h4
      have hd := h1.1
      have hsz := h1.rg hL (Nat.le_refl s) (show s < z by omega) (show s < z by omega)
      refine vc_X9_determinant_8 (by omega) (by omega) (by omega) (by omega) (by omega) ⟨by omega, fun w => absurd w (by omega), fun _ => ⟨fun w => absurd w (by omega), fun _ => ⟨by omega, ?_⟩⟩⟩
      rw [show (((16 * ((z : Int) - 1)) + (z : Int)) - 1).toNat = 16 * s + s by omega, h3 s s (Nat.le_refl _) (by omega) (Nat.le_refl _) (by omega), Int.one_mul]
      refine ⟨by omega, ?_⟩
      rw [mi_dt, show s + 1 = z by omega]
      exact hQ m1 h2
    | succ d ih =>
      intro s hs m1 h1 h2 h3 h4
      have hd := h1.1
      have e0 : m1 189 (16 * s + s) = mi A s s s := h3 s s (Nat.le_refl _) (by omega) (Nat.le_refl _) (by omega)
      have hpr := h1.rg hL (Nat.le_refl s) (show s < z by omega) (show s < z by omega)
      refine vc_X9_determinant_8 (by omega) (by omega) (by omega) (by omega) (by omega) ⟨by omega, fun _ => ?_, fun w => absurd (by omega) w⟩
      by_cases hp0 : mi A s s s = 0
      · -- nothing in the column
        have hz2 := EI_z h1 (show s < z by omega) (by rw [← mi_dt]; exact hp0)
        have w := upN (n := z) (P := fun r => s ≤ r → hd_X9_determinant_20 E k (z : Int) (z : Int) (dt s A) 1 (s : Int) (r : Int) m1 γ t Q) (fun _ => ?_) (fun r hr ih2 => fun hsr => ?_) s (by omega) (Nat.le_refl _)
        · exact w
        · refine vc_X9_determinant_20 (by omega) (by omega) (by omega) (by omega) (by omega) (by omega) ⟨fun w => absurd w (by omega), fun _ => ⟨fun _ => ?_, fun w => absurd rfl w⟩⟩
          have := hQ m1 h2
          rw [hz2.2] at this
          exact this
        · refine vc_X9_determinant_20 (by omega) (by omega) (by omega) (by omega) (by omega) (by omega) ⟨fun _ => ⟨by omega, ?_⟩, fun w => absurd (by omega) w⟩
          rw [ix, h3 r s hsr hr (Nat.le_refl _) (by omega), mi_symm hL.1, hz2.1 r hr]
          exact ⟨fun _ => ih2 (by omega), fun w => absurd (lc0.mpr rfl) w⟩
      · have hE := EI_s hL h1 (show s < z by omega) (by rw [← mi_dt]; exact hp0)
        refine vc_X9_determinant_20 (by omega) (by omega) (by omega) (by omega) (by omega) (by omega) ⟨fun _ => ⟨by omega, ?_⟩, fun w => absurd (by omega) w⟩
        rw [ix, e0]
        refine ⟨fun w => absurd (lc0.mp w) hp0, fun _ => ⟨fun w => absurd w (by omega), fun _ => ?_⟩⟩
        refine vc_X9_determinant_61 (by omega) (by omega) (by omega) (by omega) (by omega) (by omega) (by omega) ⟨fun _ => ⟨fun _ => ?_, fun w => absurd rfl w⟩, fun w => absurd (by omega) w⟩
        have rows : ∀ i, i ≤ z → s + 1 ≤ i → ∀ m2 : MM, fr [189] [] m m2 → (∀ r c, s ≤ r → r < z → s ≤ c → c < z → m2 189 (16 * r + c) = vl A s i (s + 1) r c) → hd_X9_determinant_159 E k (z : Int) (z : Int) (dt s A) 1 (s : Int) (i : Int) m2 γ t Q := by
          refine upN (fun _ m2 f2 v2 => ?_) (fun i hi ih2 => fun hsi m2 f2 v2 => ?_)
          · refine vc_X9_determinant_159 (by omega) (by omega) (by omega) (by omega) (by omega) (by omega) ⟨fun w => absurd w (by omega), fun _ => ⟨by omega, ?_⟩⟩
            rw [ix, v2 s s (Nat.le_refl _) (by omega) (Nat.le_refl _) (by omega), vl_old (by omega)]
            have := ih (s + 1) (by omega) m2 hE f2 (fun r c hr hrz hc hcz => by rw [v2 r c (by omega) hrz (by omega) hcz, vl_new (by omega)]) (by rw [← mi_dt]; omega)
            rw [← mi_dt] at this
            exact this
          · refine vc_X9_determinant_159 (by omega) (by omega) (by omega) (by omega) (by omega) (by omega) ⟨fun _ => ?_, fun w => absurd (by omega) w⟩
            have cols : ∀ j, j ≤ z → s + 1 ≤ j → ∀ m3 : MM, fr [189] [] m m3 → (∀ r c, s ≤ r → r < z → s ≤ c → c < z → m3 189 (16 * r + c) = vl A s i j r c) → hd_X9_determinant_171 E k (z : Int) (z : Int) (dt s A) 1 (s : Int) (i : Int) (j : Int) m3 γ t Q := by
              refine upN (fun _ m3 f3 v3 => ?_) (fun j hj ih3 => fun hsj m3 f3 v3 => ?_)
              · refine vc_X9_determinant_171 (by omega) (by omega) (by omega) (by omega) (by omega) (by omega) (by omega) ⟨fun w => absurd w (by omega), fun _ => ?_⟩
                exact ih2 (by omega) m3 f3 (fun r c hr hrz hc hcz => by rw [v3 r c hr hrz hc hcz, vl_row hcz])
              · have r1 := h1.rg hL (show s ≤ i by omega) (show i < z by omega) (show j < z by omega)
                have r2 := h1.rg hL (show s ≤ i by omega) (show i < z by omega) (show s < z by omega)
                have r3 := h1.rg hL (Nat.le_refl s) (show s < z by omega) (show j < z by omega)
                have r4 := hE.rg hL (show s + 1 ≤ i by omega) (show i < z by omega) (show j < z by omega)
                have p1 := mul_rgT r1 hpr
                have p2 := mul_rgT r2 r3
                refine vc_X9_determinant_171 (by omega) (by omega) (by omega) (by omega) (by omega) (by omega) (by omega) ⟨fun _ => ⟨by omega, by omega, by omega, by omega, ?_⟩, fun w => absurd (by omega) w⟩
                rw [ix, ix, ix, ix, v3 i j (by omega) (by omega) (by omega) (by omega), v3 s s (by omega) (by omega) (by omega) (by omega), v3 i s (by omega) (by omega) (by omega) (by omega), v3 s j (by omega) (by omega) (by omega) (by omega), vl_old (by omega), vl_old (by omega), vl_old (by omega), vl_old (by omega), h1.step i j]
                refine ⟨by omega, by omega, by omega, by omega, ?_⟩
                refine ih3 (by omega) _ (f3.upa 189 (by decide) (by decide)) (fun r c hr hrz hc hcz => ?_)
                rw [up_self]
                by_cases d1 : r = i ∧ c = j
                · rw [d1.1, d1.2, up_self, vl_new (by omega)]
                · rw [up_ne (by omega), v3 r c hr hrz hc hcz]
                  unfold vl
                  by_cases d2 : s < r ∧ s < c ∧ (r < i ∨ (r = i ∧ c < j))
                  · rw [if_pos d2, if_pos (by omega)]
                  · rw [if_neg d2, if_neg (by omega)]
            have := cols (s + 1) (by omega) (Nat.le_refl _) m2 f2 v2
            exact this
        have := rows (s + 1) (by omega) (Nat.le_refl _) m1 h2 (fun r c hr hrz hc hcz => by rw [h3 r c hr hrz hc hcz, vl_old (by omega)])
        exact this
  have := big (z - 1) 0 (by omega) m (EI_0 hL) fr.refl (fun r c _ hr _ hc => by rw [hA r c (by omega) (by omega), mi_0]) (by show (1 : Int) ≤ _; omega)
  exact this
theorem R_trees {s : Int} (hR : RI m a) (hs : rJ s) (hQ : ∀ m1, fr SL SF m m1 → Q (v_trees a s) m1 γ t) : TL E (k + 6) 277 [.ref 158, .int (iI s)] m γ t Q := by
  unfold v_trees at hQ
  refine vc_X9_trees hs (S_isLaid hR hs (fun c => b0 ?_) (fun m1 c hf hG hS hP => b1 ?_))
  · have := hQ m fr.refl
    rw [ift_f c] at this
    exact this
  · rw [ift_t c] at hQ
    generalize hH : a.1 s.toNat = G at *
    have hle := hG.le
    have hv := hG.2.2.1
    have hRC : G.1 * G.2.1 ≤ 4 * 4 := Nat.mul_le_mul hle.1 hle.2.1
    have hN : 0 < G.1 * G.2.1 := Nat.mul_pos hle.2.2.1 hle.2.2.2.1
    have hKE := KB_ok hv _ (Nat.le_refl (gn G.1 G.2.1))
    have hGL : GL G (G.1 * G.2.1) (KB G (gn G.1 G.2.1)) := hKE
    obtain ⟨nb, -⟩ := NB_rk hGL.1
    have htr := trV_eq hv hGL
    refine S_laysBlocks hG (fun m2 f2 k2 => ?_)
    generalize hK : KB G (gn G.1 G.2.1) = K at *
    have hn16 := rk_le (K := K) (G.1 * G.2.1)
    have hn1 : 1 ≤ rk K (G.1 * G.2.1) := by
      have := nb.1 0 hN
      omega
    have f2' : fr SL SF m m2 := hf.trans (f2.mono (by decide) (by decide))
    have hG2 := hG.fr f2 (by decide) (by decide) (by decide) (by decide) (by decide) (by decide) (by decide)
    have RGm : ∀ m3, fr [189] [] m2 m3 → RG m3 G := fun m3 h3 => hG2.fr h3 (by decide) (by decide) (by decide) (by decide) (by decide) (by decide) (by decide)
    refine upN (n := 256) (P := fun e => ∀ m3 : MM, fr [189] [] m2 m3 → (∀ j, j < e → m3 189 j = 0) → hd_X9_trees_19 E (k + 5) s (rk K (G.1 * G.2.1) : Int) (e : Int) m3 γ t Q) ?_ (fun e he ih => ?_) 0 (Nat.zero_le _) m2 fr.refl (fun j hj => absurd hj (Nat.not_lt_zero j))
    · intro m3 f3 z3
      refine vc_X9_trees_19 hs (by omega) (by omega) ⟨fun w => absurd w (by omega), fun _ => ?_⟩
      refine upN (n := gn G.1 G.2.1) (P := fun e => ∀ m3 : MM, fr [189] [] m2 m3 → (∀ r c, r < 16 → c < 16 → m3 189 (16 * r + c) = LMp G (fun c => rk K (K c)) e r c) → hd_X9_trees_41 E (k + 5) s (rk K (G.1 * G.2.1) : Int) (e : Int) m3 γ t Q) ?_ (fun e he ih => ?_) 0 (Nat.zero_le _) m3 f3 (fun r c hr hc => z3 _ (by omega))
      · intro m3 f3 z3
        refine vc_X9_trees_41 hs (by omega) (by omega) ⟨fun w => absurd w (by rw [(RGm m3 f3).1.2.2.1]; omega), fun _ => ?_⟩
        rw [show ((rk K (G.1 * G.2.1) : Nat) : Int) - 1 = ((rk K (G.1 * G.2.1) - 1 : Nat) : Int) by omega]
        refine S_detR (A := LM G (fun c => rk K (K c))) (rk K (G.1 * G.2.1) - 1) (by omega) (LO_LM hv nb.1) z3 (fun m4 f4 => ?_)
        rw [htr]
        exact hQ m4 (f2'.trans ((f3.mono (by decide) (by decide)).trans (f4.mono (by decide) (by decide))))
      · intro m3 f3 z3
        have hR3 := RGm m3 f3
        obtain ⟨c1, c2⟩ := bhd_D _ hle.1 _ hle.2.1 e he
        obtain ⟨s1, s2⟩ := hR3.1.2.2.2.1 e he
        have p1 := nb.1 _ c1
        have p2 := nb.1 _ c2
        dsimp only at p1 p2
        have k3 : m3 188 = m2 188 := f3.1 188 (by decide) (by decide)
        have q1 : m3 188 (gcell G.1 G.2.1 e) = (rk K (K (gcell G.1 G.2.1 e)) : Int) := by rw [k3]; exact k2 _ c1
        have q2 : m3 188 (bhd G.1 G.2.1 e) = (rk K (K (bhd G.1 G.2.1 e)) : Int) := by rw [k3]; exact k2 _ c2
        have hk := hv.2 e he
        refine vc_X9_trees_41 hs (by omega) (by omega) ⟨fun _ => ⟨by omega, ?_⟩, fun w => absurd (by rw [hR3.1.2.2.1]; omega) w⟩
        rw [Int.toNat_natCast, s1, Int.toNat_natCast, q1]
        refine ⟨by omega, S_behind hR3.1 hle.1 hle.2.1 he ⟨by
          show 0 ≤ ((bhd G.1 G.2.1 e : Nat) : Int) ∧ ((bhd G.1 G.2.1 e : Nat) : Int) < 16
          omega, by omega, ?_⟩⟩
        rw [show ((gcell G.1 G.2.1 e + (if gbel G.1 G.2.1 e = 1 then G.2.1 else 1) : Nat) : Int) = ((bhd G.1 G.2.1 e : Nat) : Int) from rfl, Int.toNat_natCast, q2, hR3.2.1 e he]
        have hte : ∀ r x, te (rk K (K (gcell G.1 G.2.1 e))) (rk K (K (bhd G.1 G.2.1 e))) r x = te ((fun c => rk K (K c)) (gcell G.1 G.2.1 e)) ((fun c => rk K (K c)) (bhd G.1 G.2.1 e)) r x := fun _ _ => rfl
        generalize hp : rk K (K (gcell G.1 G.2.1 e)) = p at *
        generalize hq : rk K (K (bhd G.1 G.2.1 e)) = q at *
        refine S_isCross (by omega) (fun cx => b1 ⟨fun cc => ?_, fun cc => ?_⟩) (fun cx => b0 (ih m3 f3 (fun r x hr hx => by rw [z3 r x hr hx, LMp_n cx])))
        · have cc : p = q := by omega
          refine ih m3 f3 (fun r x hr hx => ?_)
          rw [z3 r x hr hx, LMp_s cx, ← hte, cc]
          unfold te
          rw [show io r q - io r q = 0 by omega, Int.zero_mul, Int.add_zero]
        · have hpq : p ≠ q := fun w => cc (by omega)
          rw [show (17 * (p : Int)).toNat = 17 * p by omega, show (17 * (q : Int)).toNat = 17 * q by omega, show (16 * (p : Int) + (q : Int)).toNat = 16 * p + q by omega, show (16 * (q : Int) + (p : Int)).toNat = 16 * q + p by omega, up_up, up_up, up_up]
          have hF : ∀ j, j < 256 → -100 ≤ m3 189 j ∧ m3 189 j ≤ 100 := fun j hj => by
            have := LMp_rg G (fun c => rk K (K c)) e (j / 16) (j % 16)
            have h2 := z3 (j / 16) (j % 16) (by omega) (by omega)
            rw [show 16 * (j / 16) + j % 16 = j by omega] at h2
            omega
          have row := fun r c (hc : c < 16) => te_row (F := m3 189) (r := r) (c := c) hpq (by omega) (by omega) hc rfl rfl rfl rfl
          generalize hX1 : up (m3 189) (17 * p) (m3 189 (17 * p) + 1) = X1 at row ⊢
          have u1 : ∀ j, j < 256 → -101 ≤ X1 j ∧ X1 j ≤ 101 := by
            rw [← hX1]
            exact ub (B := 100) hF (by omega) (Or.inl rfl)
          generalize hX2 : up X1 (17 * q) (X1 (17 * q) + 1) = X2 at row ⊢
          have u2 : ∀ j, j < 256 → -102 ≤ X2 j ∧ X2 j ≤ 102 := by
            rw [← hX2]
            exact ub (B := 101) u1 (by omega) (Or.inl rfl)
          generalize hX3 : up X2 (16 * p + q) (X2 (16 * p + q) - 1) = X3 at row ⊢
          have u3 : ∀ j, j < 256 → -103 ≤ X3 j ∧ X3 j ≤ 103 := by
            rw [← hX3]
            exact ub (B := 102) u2 (by omega) (Or.inr rfl)
          have v0 := hF (17 * p) (by omega)
          have v1 := u1 (17 * q) (by omega)
          have v2 := u2 (16 * p + q) (by omega)
          have v3 := u3 (16 * q + p) (by omega)
          refine ⟨by omega, by omega, by omega, by omega, by omega, by omega, by omega, by omega, by omega, by omega, by omega, by omega, ih _ (f3.upa 189 (by decide) (by decide)) (fun r x hr hx => ?_)⟩
          rw [up_self, row r x hx, z3 r x hr hx, LMp_s cx, ← hte]
    · intro m3 f3 z3
      refine vc_X9_trees_19 hs (by omega) (by omega) ⟨fun _ => ⟨by omega, ?_⟩, fun w => absurd (by omega) w⟩
      rw [Int.toNat_natCast]
      refine ih _ (f3.upa 189 (by decide) (by decide)) (fun j hj => ?_)
      rw [up_self]
      by_cases d : j = e
      · rw [d, up_self]
      · rw [up_ne d]
        exact z3 j (by omega)
end RT
