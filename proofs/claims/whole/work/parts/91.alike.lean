/-! ===== grids as far as their edges; turned and mirrored ===== -/
section CG
variable {G : GV}
theorem exk_nrm (hG : vG G) {x : Nat × Bool} (hx : x.1 < nC G) : exk (nrm G) x = exk G x := by
  have hr := exe_rng hG hx
  unfold exk
  show (if exe G.1 G.2.1 x.1 x.2 = -1 then 2 else (if (exe G.1 G.2.1 x.1 x.2).toNat < gn G.1 G.2.1 then G.2.2 (exe G.1 G.2.1 x.1 x.2).toNat else 0)) = if exe G.1 G.2.1 x.1 x.2 = -1 then 2 else G.2.2 (exe G.1 G.2.1 x.1 x.2).toNat
  by_cases c : exe G.1 G.2.1 x.1 x.2 = -1
  · rw [if_pos c, if_pos c]
  · rw [if_neg c, if_neg c, if_pos (by omega)]
theorem nx_nrm (hG : vG G) {x : Nat × Bool} (hx : x.1 < nC G) : nx (nrm G) x = nx G x := by
  unfold nx
  rw [exk_nrm hG hx]
  rfl
theorem nxi_nrm (hG : vG G) {x : Nat × Bool} (hx : x.1 < nC G) : ∀ i, nxi (nrm G) i x = nxi G i x
  | 0 => rfl
  | i + 1 => by
    show nx (nrm G) (nxi (nrm G) i x) = nx G (nxi G i x)
    rw [nxi_nrm hG hx i, nx_nrm hG (nxi_lt hG hx i)]
theorem len_nrm (hG : vG G) {c : Nat} (hc : c < nC G) : len (nrm G) c = len G c := by
  unfold len
  have : (fun i => decide ((nxi (nrm G) (i + 1) (c, true)).1 = c)) = fun i => decide ((nxi G (i + 1) (c, true)).1 = c) := by
    funext i
    rw [nxi_nrm hG (x := (c, true)) hc]
  rw [this]
  rfl
theorem inn_nrm (hG : vG G) {c : Nat} (hc : c < nC G) (A : AS) : ∀ i, inn (nrm G) A c i = inn G A c i
  | 0 => rfl
  | i + 1 => by
    show nt (nrm G) (inn (nrm G) A c i) i (nxi (nrm G) i (c, true)) = nt G (inn G A c i) i (nxi G i (c, true))
    rw [inn_nrm hG hc A i, nxi_nrm hG (x := (c, true)) hc]
    unfold nt isC
    rw [exk_nrm hG (nxi_lt hG (x := (c, true)) hc i)]
theorem out_nrm (hG : vG G) : ∀ c, c ≤ nC G → out (nrm G) c = out G c
  | 0, _ => rfl
  | c + 1, hc => by
    show (if visb (out (nrm G) c) c then out (nrm G) c else fol (nrm G) (out (nrm G) c) c) = if visb (out G c) c then out G c else fol G (out G c) c
    rw [out_nrm hG c (by omega)]
    unfold fol
    rw [len_nrm hG (by omega), inn_nrm hG (by omega)]
theorem aG_nrm (hG : vG G) : aG (nrm G) = aG G := out_nrm hG (nC G) (Nat.le_refl _)
theorem nS_nrm (hG : vG G) : nS (nrm G) = nS G := by
  unfold nS
  rw [aG_nrm hG]
theorem gv_ext {G H : GV} (n1 : nG G) (n2 : nG H) (h1 : G.1 = H.1) (h2 : G.2.1 = H.2.1) (h3 : ∀ e, e < gn G.1 G.2.1 → G.2.2 e = H.2.2 e) : G = H := by
  rw [← nrm_id n1, ← nrm_id n2]
  unfold nrm
  rw [← h1, ← h2]
  congr 2
  funext e
  split
  · next h => exact h3 e h
  · rfl
theorem gT_at {e : Nat} (he : e < gn G.2.1 G.1) : (gT G).2.2 e = G.2.2 (trE G.1 G.2.1 e) := if_pos he
theorem gM_at {e : Nat} (he : e < gn G.1 G.2.1) : (gM G).2.2 e = tov (G.2.2 (miE G.1 G.2.1 e)) := if_pos he
theorem gT_v (hG : vG G) : vG (gT G) := by
  have hle := hG.1.le
  refine vG_nrm ⟨?_, fun e he => ?_⟩
  · have := hG.1
    unfold gok at this ⊢
    simp only
    omega
  · have he : e < gn G.2.1 G.1 := he
    exact hG.2 _ (tr_D _ hle.1 _ hle.2 e he).2.2.2
theorem gM_v (hG : vG G) : vG (gM G) := by
  have hle := hG.1.le
  refine vG_nrm ⟨hG.1, fun e he => ?_⟩
  have he : e < gn G.1 G.2.1 := he
  have := hG.2 _ (mi_D _ hle.1 _ hle.2 e he).2.2.2
  exact tov_rng this.1 this.2
theorem t4_D : ∀ R, R ≤ 4 → ∀ C, C ≤ 4 → ∀ e, e < gn R C → trE R C (trE C R (trE R C (trE C R e))) = e := by decide +kernel
theorem mt_D : ∀ R, R ≤ 4 → ∀ C, C ≤ 4 → ∀ e, e < gn C R → trE R C (trE C R (trE R C (miE C R e))) = miE R C (trE R C e) := by decide +kernel
theorem mtt_D : ∀ R, R ≤ 4 → ∀ C, C ≤ 4 → ∀ e, e < gn R C → trE R C (trE C R (miE R C e)) = miE R C (trE R C (trE C R e)) := by decide +kernel
theorem T4 (hG : vG G) (hn : nG G) : gT (gT (gT (gT G))) = G := by
  have hle := hG.1.le
  refine gv_ext (nrm_nG _) hn rfl rfl (fun e he => ?_)
  have he : e < gn G.1 G.2.1 := he
  have a1 := (tr_D G.2.1 hle.2 G.1 hle.1 e he).2.2.2
  have a2 := (tr_D G.1 hle.1 G.2.1 hle.2 _ a1).2.2.2
  have a3 := (tr_D G.2.1 hle.2 G.1 hle.1 _ a2).2.2.2
  rw [gT_at he]
  show (gT (gT (gT G))).2.2 (trE G.2.1 G.1 e) = _
  rw [gT_at (G := gT (gT G)) a1]
  show (gT (gT G)).2.2 (trE G.1 G.2.1 (trE G.2.1 G.1 e)) = _
  rw [gT_at (G := gT G) a2]
  show (gT G).2.2 (trE G.2.1 G.1 (trE G.1 G.2.1 (trE G.2.1 G.1 e))) = _
  rw [gT_at a3, t4_D G.1 hle.1 G.2.1 hle.2 e he]
theorem MT3 (hG : vG G) : gM (gT (gT (gT G))) = gT (gM G) := by
  have hle := hG.1.le
  refine gv_ext (nrm_nG _) (nrm_nG _) rfl rfl (fun e he => ?_)
  have he : e < gn G.2.1 G.1 := he
  have a0 := (mi_D G.2.1 hle.2 G.1 hle.1 e he).2.2.2
  have a1 := (tr_D G.1 hle.1 G.2.1 hle.2 _ a0).2.2.2
  have a2 := (tr_D G.2.1 hle.2 G.1 hle.1 _ a1).2.2.2
  have b1 := (tr_D G.1 hle.1 G.2.1 hle.2 e he).2.2.2
  rw [gM_at (G := gT (gT (gT G))) he, gT_at (G := gM G) he]
  show tov ((gT (gT (gT G))).2.2 (miE G.2.1 G.1 e)) = (gM G).2.2 (trE G.1 G.2.1 e)
  rw [gT_at (G := gT (gT G)) a0, gM_at b1]
  show tov ((gT (gT G)).2.2 (trE G.1 G.2.1 (miE G.2.1 G.1 e))) = _
  rw [gT_at (G := gT G) a1]
  show tov ((gT G).2.2 (trE G.2.1 G.1 (trE G.1 G.2.1 (miE G.2.1 G.1 e)))) = _
  rw [gT_at a2, mt_D G.1 hle.1 G.2.1 hle.2 e he]
theorem MT2 (hG : vG G) : gM (gT (gT G)) = gT (gT (gM G)) := by
  have hle := hG.1.le
  refine gv_ext (nrm_nG _) (nrm_nG _) rfl rfl (fun e he => ?_)
  have he : e < gn G.1 G.2.1 := he
  have a0 := (mi_D G.1 hle.1 G.2.1 hle.2 e he).2.2.2
  have a1 := (tr_D G.2.1 hle.2 G.1 hle.1 _ a0).2.2.2
  have b1 := (tr_D G.2.1 hle.2 G.1 hle.1 e he).2.2.2
  have b2 := (tr_D G.1 hle.1 G.2.1 hle.2 _ b1).2.2.2
  rw [gM_at (G := gT (gT G)) he, gT_at (G := gT (gM G)) he]
  show tov ((gT (gT G)).2.2 (miE G.1 G.2.1 e)) = (gT (gM G)).2.2 (trE G.2.1 G.1 e)
  rw [gT_at (G := gT G) a0, gT_at (G := gM G) b1]
  show tov ((gT G).2.2 (trE G.2.1 G.1 (miE G.1 G.2.1 e))) = (gM G).2.2 (trE G.1 G.2.1 (trE G.2.1 G.1 e))
  rw [gT_at a1, gM_at b2, mtt_D G.1 hle.1 G.2.1 hle.2 e he]
end CG
/-- the forms of a grid, as the class goes through them, and as the reference does -/
def fC (G : GV) : Nat → GV
  | 0 => G
  | n + 1 => if n = 3 then gM (fC G n) else gT (fC G n)
def fR (G : GV) : Nat → GV
  | 0 => G
  | n + 1 => if n = 3 then gM (gT (fR G n)) else gT (fR G n)
theorem fCR {G : GV} (hG : vG G) (hn : nG G) (H : GV) : (∃ n, n < 8 ∧ fC G n = H) ↔ ∃ n, n < 8 ∧ fR G n = H := by
  have e4 : fR G 4 = gM G := by
    show gM (gT (gT (gT (gT G)))) = gM G
    rw [T4 hG hn]
  have c4 : fC G 4 = fR G 5 := by
    show gM (gT (gT (gT G))) = gT (fR G 4)
    rw [e4, MT3 hG]
  have c5 : fC G 5 = fR G 6 := congrArg gT c4
  have c6 : fC G 6 = fR G 7 := congrArg gT c5
  have c7 : fC G 7 = fR G 4 := by
    show gT (fC G 6) = _
    rw [c6]
    show gT (gT (gT (gT (fR G 4)))) = _
    rw [e4, T4 (gM_v hG) (nrm_nG _)]
  have low : ∀ n, n < 4 → fC G n = fR G n := by
    intro n h
    have : n = 0 ∨ n = 1 ∨ n = 2 ∨ n = 3 := by omega
    rcases this with rfl | rfl | rfl | rfl <;> rfl
  constructor
  · rintro ⟨n, h, e⟩
    rcases Nat.lt_or_ge n 4 with h4 | h4
    · exact ⟨n, h, by rw [← low n h4]; exact e⟩
    · have : n = 4 ∨ n = 5 ∨ n = 6 ∨ n = 7 := by omega
      rcases this with rfl | rfl | rfl | rfl
      · exact ⟨5, by decide, by rw [← c4]; exact e⟩
      · exact ⟨6, by decide, by rw [← c5]; exact e⟩
      · exact ⟨7, by decide, by rw [← c6]; exact e⟩
      · exact ⟨4, by decide, by rw [← c7]; exact e⟩
  · rintro ⟨n, h, e⟩
    rcases Nat.lt_or_ge n 4 with h4 | h4
    · exact ⟨n, h, by rw [low n h4]; exact e⟩
    · have : n = 4 ∨ n = 5 ∨ n = 6 ∨ n = 7 := by omega
      rcases this with rfl | rfl | rfl | rfl
      · exact ⟨7, by decide, by rw [c7]; exact e⟩
      · exact ⟨4, by decide, by rw [c4]; exact e⟩
      · exact ⟨5, by decide, by rw [c5]; exact e⟩
      · exact ⟨6, by decide, by rw [c6]; exact e⟩
theorem fC_n {G : GV} (hn : nG G) : ∀ n, nG (fC G n)
  | 0 => hn
  | n + 1 => by
    show nG (if n = 3 then gM (fC G n) else gT (fC G n))
    split <;> exact nrm_nG _
noncomputable def v_alike (a : AST) (s o : Int) : Int := ift (isG a.1 s ∧ isG a.1 o) (ift (∃ n, n < 8 ∧ fC (a.1 s.toNat) n = a.1 o.toNat) 1 0) (-2)
def sm (G : GV) (w : Int) : GV := if w = 0 then gT G else if w = 1 then gT (gT G) else if w = 2 then gM G else gM (gT (gT G))
noncomputable def v_same (a : AST) (s w : Int) : Int := ift (isG a.1 s ∧ 0 ≤ w ∧ w ≤ 3) (ift (sm (a.1 s.toNat) w = a.1 s.toNat) 1 0) (-2)
section C9
variable {E : am_E} {k : Nat} {m : MM} {γ : GM} {t : am_H} {a : AST} {Q : Int → MM → GM → am_H → Prop}
theorem C_alike {s o : Int} (hC : CI m γ a) (hs : rJ s) (ho : rJ o) (hQ : ∀ m1 γ1, CI m1 γ1 a → rsame m m1 → Q (v_alike a s o) m1 γ1 t) : TI E (k + 4) 169 [.ref 0, .int (iI s), .int (iI o)] m γ t Q := by
  unfold v_alike at hQ
  have h0 : ¬ (isG a.1 s ∧ isG a.1 o) → Q (-2) m γ t := fun h => by
    have := hQ m γ hC (fun _ _ => rfl)
    rw [ift_f h] at this
    exact this
  refine vc_X8_alike hs ho (S_gridIn hC hs (fun c1 => oN (S_gridIn hC ho (fun c2 => oN (h0 (fun h => c1 h.1))) (fun c2 => oSm ⟨(c2.i hC).1, h0 (fun h => c1 h.1)⟩))) (fun c1 => oSm ⟨(c1.i hC).1, S_gridIn hC ho (fun c2 => oN (h0 (fun h => c2 h.2))) (fun c2 => oSm ⟨(c2.i hC).1, ?_⟩)⟩))
  obtain ⟨i1, i2, i3, i4, -⟩ := c1.i hC
  obtain ⟨j1, j2, j3, j4, -⟩ := c2.i hC
  refine S_copy (gi rfl) i1 (by omega) ?_
  rw [i2]
  have main := upN (n := 8) (P := fun n => ∀ γ1, CI m γ1 a → γ1 2 = fC (a.1 s.toNat) n → γ1 (146 + 4 * o.toNat) = a.1 o.toNat → (∀ n', n' < n → fC (a.1 s.toNat) n' ≠ a.1 o.toNat) → hd_X8_alike_36 E (k + 3) s o (146 + 4 * o.toNat) (n : Int) m γ1 t Q) ?_ ?_ 0 (by decide)
  · exact main _ (hC.nx (Or.inl rfl)) up_self (by rw [up_ne (by omega)]; exact j2) (fun n' h => absurd h (Nat.not_lt_zero _))
  · intro γ1 hC1 g2 go hno
    refine vc_X8_alike_36 hs ho j1 (by omega) ⟨fun q => absurd q (by omega), fun _ => ?_⟩
    have := hQ m γ1 hC1 (fun _ _ => rfl)
    rw [ift_t ⟨c1, c2⟩, ift_f (fun ⟨n, hn, e⟩ => hno n hn e)] at this
    exact this
  · intro n hn ih γ1 hC1 g2 go hno
    refine vc_X8_alike_36 hs ho j1 (by omega) ⟨fun _ => S_isLike (gi rfl) j1 (by rw [g2]; exact fC_n i4 n) (by rw [go]; exact j4) (fun q => b1 ?_) (fun q => b0 ?_), fun q => absurd (by omega) q⟩
    · rw [g2, go] at q
      have := hQ m γ1 hC1 (fun _ _ => rfl)
      rw [ift_t ⟨c1, c2⟩, ift_t ⟨n, hn, q⟩] at this
      exact this
    · rw [g2, go] at q
      have hno' : ∀ n', n' < n + 1 → fC (a.1 s.toNat) n' ≠ a.1 o.toNat := fun n' h => by
        by_cases e : n' = n
        · rw [e]; exact q
        · exact hno n' (by omega)
      refine ⟨fun c3 => S_mirrG (gi rfl) (gi rfl) (by decide) (S_copy (gi rfl) (gi rfl) (by decide) ?_), fun c3 => S_turnG (gi rfl) (gi rfl) (by decide) (S_copy (gi rfl) (gi rfl) (by decide) ?_)⟩
      · have := ih _ ((hC1.nx (g := 6) (G := gM (γ1 2)) (Or.inr rfl)).nx (g := 2) (G := up γ1 6 (gM (γ1 2)) 6) (Or.inl rfl)) (by
          rw [up_self, up_self, g2]
          show gM _ = if n = 3 then gM (fC (a.1 s.toNat) n) else gT (fC (a.1 s.toNat) n)
          rw [if_pos (by omega)]) (by rw [up_ne (by omega), up_ne (by omega)]; exact go) hno'
        exact this
      · have := ih _ ((hC1.nx (g := 6) (G := gT (γ1 2)) (Or.inr rfl)).nx (g := 2) (G := up γ1 6 (gT (γ1 2)) 6) (Or.inl rfl)) (by
          rw [up_self, up_self, g2]
          show gT _ = if n = 3 then gM (fC (a.1 s.toNat) n) else gT (fC (a.1 s.toNat) n)
          rw [if_neg (by omega)]) (by rw [up_ne (by omega), up_ne (by omega)]; exact go) hno'
        exact this
theorem C_same {s w : Int} (hC : CI m γ a) (hs : rJ s) (hw : rJ w) (hQ : ∀ m1 γ1, CI m1 γ1 a → rsame m m1 → Q (v_same a s w) m1 γ1 t) : TI E (k + 4) 170 [.ref 0, .int (iI s), .int (iI w)] m γ t Q := by
  unfold v_same at hQ
  have h0 : ¬ (isG a.1 s ∧ 0 ≤ w ∧ w ≤ 3) → Q (-2) m γ t := fun h => by
    have := hQ m γ hC (fun _ _ => rfl)
    rw [ift_f h] at this
    exact this
  refine vc_X8_same hs hw (S_gridIn hC hs (fun c1 => oN (h0 (fun h => c1 h.1))) (fun c1 => oSm ?_))
  obtain ⟨i1, i2, i3, i4, -⟩ := c1.i hC
  have fin : 0 ≤ w ∧ w ≤ 3 → ∀ γ1, CI m γ1 a → γ1 2 = sm (a.1 s.toNat) w → γ1 (146 + 4 * s.toNat) = a.1 s.toNat → nG (γ1 2) → TI E (k + 3) 43 [.ref 2, .ref (146 + 4 * s.toNat)] m γ1 t (fun v22 m22 γ22 t22 => (((v22 = 0) → (Q 0 m22 γ22 t22)) ∧ (¬ (v22 = 0) → (Q 1 m22 γ22 t22)))) := by
    intro hok γ1 hC1 g2 gs hn
    have := hQ m γ1 hC1 (fun _ _ => rfl)
    rw [ift_t ⟨c1, hok⟩] at this
    refine S_isLike (gi rfl) i1 hn (by rw [gs]; exact i4) (fun q => b1 ?_) (fun q => b0 ?_)
    · rw [g2, gs] at q
      rw [ift_t q] at this
      exact this
    · rw [g2, gs] at q
      rw [ift_f q] at this
      exact this
  refine ⟨i1, fun c2 => h0 (fun h => by have := h.2.1; omega), fun c2 => ⟨fun c3 => ⟨fun c4 => S_mirrG (gi rfl) i1 (by omega) ?_, fun c4 => S_turnG (gi rfl) i1 (by omega) ⟨fun c5 => ⟨fun c6 => absurd c5 (by omega), fun c6 => ?_⟩, fun c5 => S_turnG (gi rfl) (gi rfl) (by decide) (S_copy (gi rfl) (gi rfl) (by decide) ⟨fun c6 => S_mirrG (gi rfl) (gi rfl) (by decide) ?_, fun c6 => ?_⟩)⟩⟩, fun c3 => h0 (fun h => by have := h.2.2; omega)⟩⟩
  · rw [i2]
    refine fin (by omega) _ (hC.nx (Or.inl rfl)) ?_ (by rw [up_ne (by omega)]; exact i2) (by rw [up_self]; exact nrm_nG _)
    rw [up_self]
    unfold sm
    rw [if_neg (by omega), if_neg (by omega), if_pos c4]
  · rw [i2]
    refine fin (by omega) _ (hC.nx (Or.inl rfl)) ?_ (by rw [up_ne (by omega)]; exact i2) (by rw [up_self]; exact nrm_nG _)
    rw [up_self]
    unfold sm
    rw [if_pos c5]
  · refine fin (by omega) _ ((((hC.nx (Or.inl rfl)).nx (Or.inr rfl)).nx (Or.inl rfl)).nx (Or.inl rfl)) ?_ (by rw [up_ne (by omega), up_ne (by omega), up_ne (by omega), up_ne (by omega)]; exact i2) (by rw [up_self]; exact nrm_nG _)
    rw [up_self]
    unfold sm
    rw [if_neg c5, if_neg (by omega), if_neg c4]
    rw [up_ne (show (6 : Nat) ≠ 2 by decide), up_self, up_self, i2]
  · refine fin (by omega) _ (((hC.nx (Or.inl rfl)).nx (Or.inr rfl)).nx (Or.inl rfl)) ?_ (by rw [up_ne (by omega), up_ne (by omega), up_ne (by omega)]; exact i2) (by rw [up_self, up_self]; exact nrm_nG _)
    rw [up_self, up_self, up_self, i2]
    unfold sm
    rw [if_neg c5, if_pos (by omega)]
end C9
