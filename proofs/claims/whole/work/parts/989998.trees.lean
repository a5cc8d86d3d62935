/-! ===== trees, both sides ===== -/
def KC (G : GV) : Nat → Nat → Nat
  | 0 => fun c => c
  | e + 1 => if G.2.2 e = 3 then mgL (KC G e) (gcell G.1 G.2.1 e) (bhd G.1 G.2.1 e) else KC G e
theorem KC_ok {G : GV} (hG : vG G) : ∀ e, e ≤ gn G.1 G.2.1 → CLb G e (KC G e)
  | 0, _ => CLb_0 G
  | e + 1, he => by
    have hle := hG.1.le
    have hRC : G.1 * G.2.1 ≤ 4 * 4 := Nat.mul_le_mul hle.1 hle.2
    obtain ⟨b1, b2⟩ := bhd_D _ hle.1 _ hle.2 e (by omega)
    show CLb G (e + 1) (if G.2.2 e = 3 then mgL (KC G e) (gcell G.1 G.2.1 e) (bhd G.1 G.2.1 e) else KC G e)
    by_cases c : G.2.2 e = 3
    · rw [if_pos c]
      exact CLb_s (KC_ok hG e (by omega)) (by omega) (by omega) c
    · rw [if_neg c]
      exact CLb_n (KC_ok hG e (by omega)) c
def trV (G : GV) : Int := TRE G (KC G (gn G.1 G.2.1))
theorem trV_eq {G : GV} (hG : vG G) {L : Nat → Nat} (hL : GL G (G.1 * G.2.1) L) : dt (rk L (G.1 * G.2.1) - 1) (LM G (fun c => rk L (L c))) = trV G := (GL_same hG (CLb_GL hG (KC_ok hG _ (Nat.le_refl _))) hL).2.symm
noncomputable def v_trees (a : AST) (s : Int) : Int := ift (isG a.1 s) (trV (a.1 s.toNat)) (-2)
def LMp (G : GV) (f : Nat → Nat) (e a b : Nat) : Int := sumN (fun e => if G.2.2 e = 0 ∨ G.2.2 e = 1 then te (f (gcell G.1 G.2.1 e)) (f (bhd G.1 G.2.1 e)) a b else 0) e
theorem LMp_rg (G : GV) (f : Nat → Nat) (e a b : Nat) : -(e : Int) ≤ LMp G f e a b ∧ LMp G f e a b ≤ (e : Int) := by
  have := sumN_rg (f := fun e => if G.2.2 e = 0 ∨ G.2.2 e = 1 then te (f (gcell G.1 G.2.1 e)) (f (bhd G.1 G.2.1 e)) a b else 0) (lo := -1) (hi := 1) (fun e => by
    have := te_rg (f (gcell G.1 G.2.1 e)) (f (bhd G.1 G.2.1 e)) a b
    split <;> omega) e
  unfold LMp
  omega
theorem LMp_s {G : GV} {f : Nat → Nat} {e : Nat} (h : G.2.2 e = 0 ∨ G.2.2 e = 1) (a b : Nat) : LMp G f (e + 1) a b = LMp G f e a b + te (f (gcell G.1 G.2.1 e)) (f (bhd G.1 G.2.1 e)) a b := by
  show LMp G f e a b + (if G.2.2 e = 0 ∨ G.2.2 e = 1 then _ else 0) = _
  rw [if_pos h]
theorem LMp_n {G : GV} {f : Nat → Nat} {e : Nat} (h : ¬ (G.2.2 e = 0 ∨ G.2.2 e = 1)) (a b : Nat) : LMp G f (e + 1) a b = LMp G f e a b := by
  show LMp G f e a b + (if G.2.2 e = 0 ∨ G.2.2 e = 1 then _ else 0) = _
  rw [if_neg h, Int.add_zero]
theorem rk_le {K : Nat → Nat} : ∀ n, rk K n ≤ n
  | 0 => Nat.le_refl 0
  | n + 1 => by
    have := rk_le (K := K) n
    show rk K n + _ ≤ n + 1
    split <;> omega
theorem CI.f8 {m m1 : MM} {γ : GM} {a : AST} (h : CI m γ a) (hb : ∀ b, ¬ (80 ≤ b ∧ b ≤ 98) → m1 b = m b) : CI m1 γ a := by
  refine h.move ⟨fun b hb2 => hb b (by omega), fun _ _ => rfl⟩ ⟨h.2.1.1, ?_⟩ (h.2.2.1.move ⟨fun b h1 h2 => hb b (by omega), rfl⟩)
  have := h.2.1.2
  unfold TrOK at *
  rw [hb 10 (by decide), hb 15 (by decide), hb 16 (by decide), hb 17 (by decide), hb 18 (by decide), hb 19 (by decide), hb 20 (by decide), hb 21 (by decide), hb 22 (by decide), hb 23 (by decide), hb 24 (by decide), hb 25 (by decide), hb 26 (by decide)]
  exact this
theorem row8 : ∀ e, e < 16 → ncb (83 + e) = true ∧ lay (83 + e) = (3, 16, []) ∧ lcb (83 + e) = true := by decide
section TE
variable {E : am_E} {k : Nat} {m : MM} {γ : GM} {t : am_H} {a : AST} {Q : Int → MM → GM → am_H → Prop}
theorem S_grow {G : GV} {g : Nat} (hg : isg g) (hγ : γ g = G) (hG : vG G) (h0 : 0 < G.1) (hQ : ∀ m1, (∀ b, ¬ (80 ≤ b ∧ b ≤ 98) → m1 b = m b) → Q (trV G) m1 γ t) : TL E (k + 4) 15 [.ref 80, .ref g] m γ t Q := by
  have hle := hG.1.le
  have hgn := gn_le _ hle.1 _ hle.2
  have hRC : G.1 * G.2.1 ≤ 4 * 4 := Nat.mul_le_mul hle.1 hle.2
  have hN : 0 < G.1 * G.2.1 := by
    have h2 := hG.1
    unfold gok at h2
    exact Nat.mul_pos h0 (by omega)
  have hKl := KC_ok hG _ (Nat.le_refl (gn G.1 G.2.1))
  have hGL := CLb_GL hG hKl
  obtain ⟨nb, -⟩ := NB_rk hGL.1
  generalize hK : KC G (gn G.1 G.2.1) = K at *
  have hn16 := rk_le (K := K) (G.1 * G.2.1)
  have hn1 : 1 ≤ rk K (G.1 * G.2.1) := by
    have k0 := (hKl.1 0 (by decide)).1
    have := rk_lt (L := K) hN (show K 0 = 0 by omega)
    omega
  refine vc_X2_grow hg ?_
  refine upN (n := 16) (P := fun e => ∀ m1 : MM, (∀ b, ¬ (80 ≤ b ∧ b ≤ 98) → m1 b = m b) → (∀ c, c < e → m1 81 c = (c : Int)) → (∀ r c, r < e → c < 16 → m1 (83 + r) c = 0) → hd_X2_grow_2 E (k + 3) g (e : Int) m1 γ t Q) ?_ (fun e he ih => ?_) 0 (Nat.zero_le _) m (fun _ _ => rfl) (fun c hc => absurd hc (Nat.not_lt_zero c)) (fun r c hr => absurd hr (Nat.not_lt_zero r))
  · intro m1 f1 k1 z1
    refine vc_X2_grow_2 hg (by omega) ⟨fun w => absurd w (by omega), fun _ => ?_⟩
    refine upN (n := gn G.1 G.2.1) (P := fun e => ∀ m2 : MM, (∀ b, ¬ (80 ≤ b ∧ b ≤ 98) → m2 b = m b) → (∀ c, c < 16 → m2 81 c = (KC G e c : Int)) → (∀ r c, r < 16 → c < 16 → m2 (83 + r) c = 0) → hd_X2_grow_33 E (k + 3) g (e : Int) m2 γ t Q) ?_ (fun e he ih => ?_) 0 (Nat.zero_le _) m1 f1 k1 z1
    · intro m2 f2 k2 z2
      refine vc_X2_grow_33 hg (by omega) (S_edges hg (fun _ => ?_))
      rw [hγ]
      refine ⟨fun w => absurd w (by omega), fun _ => S_gcells hg (fun _ => ?_)⟩
      rw [hγ]
      rw [hK] at k2
      refine S_renumber (G.1 * G.2.1) hRC hKl.1 k2 (fun F hF => ?_)
      refine upN (n := gn G.1 G.2.1) (P := fun e => ∀ m3 : MM, (∀ b, ¬ (80 ≤ b ∧ b ≤ 98) → m3 b = m b) → (∀ c, c < G.1 * G.2.1 → m3 81 c = (rk K (K c) : Int)) → (∀ r c, r < 16 → c < 16 → m3 (83 + r) c = LMp G (fun c => rk K (K c)) e r c) → hd_X2_grow_73 E (k + 3) g (rk K (G.1 * G.2.1) : Int) (e : Int) m3 γ t Q) ?_ (fun e he ih => ?_) 0 (Nat.zero_le _) (up m2 81 F) (fun b hb => by rw [up_ne (by omega)]; exact f2 b hb) (fun c hc => by rw [up_self]; exact hF c hc) (fun r c hr hc => by rw [up_ne (by omega)]; exact z2 r c hr hc)
      · intro m3 f3 k3 z3
        refine vc_X2_grow_73 hg (by omega) (by omega) (S_edges hg (fun _ => ?_))
        rw [hγ]
        refine ⟨fun w => absurd w (by omega), fun _ => ?_⟩
        rw [show ((rk K (G.1 * G.2.1) : Nat) : Int) - 1 = ((rk K (G.1 * G.2.1) - 1 : Nat) : Int) by omega]
        refine S_detC (A := LM G (fun c => rk K (K c))) (rk K (G.1 * G.2.1) - 1) (by omega) (LO_LM hG nb.1) z3 (fun m4 f4 => ?_)
        have := hQ m4 (fun b hb => by rw [f4 b (by omega)]; exact f3 b hb)
        unfold trV TRE at this
        rw [hK] at this
        exact this
      · intro m3 f3 k3 z3
        obtain ⟨bb1, bb2⟩ := bhd_D _ hle.1 _ hle.2 e he
        have p1 := nb.1 _ bb1
        have p2 := nb.1 _ bb2
        dsimp only at p1 p2
        refine vc_X2_grow_73 hg (by omega) (by omega) (S_edges hg (fun _ => ?_))
        rw [hγ]
        refine ⟨fun _ => S_isCrossG e hg rfl (by rw [hγ]; exact he) (fun c => ?_) (fun c => ?_), fun w => absurd (by omega) w⟩
        · rw [hγ] at c
          refine b1 ?_
          refine S_cellOf e hg rfl (by rw [hγ]; exact he) (fun _ => ?_)
          rw [hγ]
          refine S_at 16 rfl rfl rfl (by decide) (by omega) (fun _ => ?_)
          rw [atn_in (by omega), k3 _ bb1]
          refine S_cellBehind e hg hγ hG he (S_at 16 rfl rfl rfl (by decide) (by omega) (fun _ => ?_))
          rw [atn_in (by omega), k3 _ bb2]
          refine S_tie (A := LMp G (fun c => rk K (K c)) e) (rk K (K (gcell G.1 G.2.1 e))) (rk K (K (bhd G.1 G.2.1 e))) (by omega) (by omega) (fun r x hr hx => ⟨z3 r x hr hx, ?_⟩) (fun m4 f4 z4 => ?_)
          · have := LMp_rg G (fun c => rk K (K c)) e r x
            omega
          · refine ih m4 (fun b hb => by rw [f4 b (by omega)]; exact f3 b hb) (fun x hx => by rw [f4 81 (by decide)]; exact k3 x hx) (fun r x hr hx => ?_)
            rw [z4 r x hr hx, LMp_s c]
        · rw [hγ] at c
          refine b0 (ih m3 f3 k3 (fun r x hr hx => ?_))
          rw [z3 r x hr hx, LMp_n c]
    · intro m2 f2 k2 z2
      refine vc_X2_grow_33 hg (by omega) (S_edges hg (fun _ => ?_))
      rw [hγ]
      refine ⟨fun _ => S_kindOf e hg rfl (by rw [hγ]; exact he) (fun _ => ?_), fun w => absurd (by omega) w⟩
      rw [hγ]
      have ks : KC G (e + 1) = if G.2.2 e = 3 then mgL (KC G e) (gcell G.1 G.2.1 e) (bhd G.1 G.2.1 e) else KC G e := rfl
      refine ⟨fun c => S_mergeK e hg hγ hG he (KC_ok hG e (by omega)) k2 (fun F hF => ?_), fun c => ih m2 f2 (fun x hx => by rw [ks, if_neg c]; exact k2 x hx) z2⟩
      exact ih (up m2 81 F) (fun b hb => by rw [up_ne (by omega)]; exact f2 b hb) (fun x hx => by rw [up_self, ks, if_pos c]; exact hF x hx) (fun r x hr hx => by rw [up_ne (by omega)]; exact z2 r x hr hx)
  · intro m1 f1 k1 z1
    obtain ⟨r1, r2, r3⟩ := row8 e he
    refine vc_X2_grow_2 hg (by omega) ⟨fun _ => ⟨by omega, by omega, ?_⟩, fun w => absurd (by omega) w⟩
    rw [Int.toNat_natCast]
    refine S_fillL 16 r1 r2 r3 (by decide) (by omega) (ih _ (fun b hb => ?_) (fun c hc => ?_) (fun r c hr hc => ?_))
    · rw [up_ne (by omega), up_ne (by omega)]
      exact f1 b hb
    · rw [up_ne (by omega), up_self]
      by_cases d : c = e
      · rw [d, up_self]
      · rw [up_ne d]
        exact k1 c (by omega)
    · by_cases d : r = e
      · rw [d, up_self]
        exact if_pos hc
      · rw [up_ne (by omega), up_ne (by omega)]
        exact z1 r c (by omega) hc
theorem C_trees {s : Int} (hC : CI m γ a) (hs : rJ s) (hQ : ∀ m1 γ1, CI m1 γ1 a → rsame m m1 → Q (v_trees a s) m1 γ1 t) : TL E (k + 6) 158 [.ref 0, .int (iI s)] m γ t Q := by
  unfold v_trees at hQ
  refine vc_X8_trees hs (S_gridIn hC hs (fun c1 => oN ?_) (fun c1 => oSm ?_))
  · have := hQ m γ hC (fun _ _ => rfl)
    rw [ift_f c1] at this
    exact this
  · obtain ⟨i1, i2, i3, i4, i5, -⟩ := c1.i hC
    refine ⟨i1, S_grow i1 i2 i3 (by omega) (fun m1 f1 => ?_)⟩
    have := hQ m1 γ (hC.f8 f1) (fun b hb => f1 b (by omega))
    rw [ift_t c1] at this
    exact this
end TE
