/-! ===== the reference: acts ===== -/
def clS (m m1 : MM) : Prop := ∀ b, b < 158 → m1 b = m b
theorem fr.cl {l fl : List Nat} {m m1 : MM} (h : fr l fl m m1) (hl : ∀ a ∈ l, 158 ≤ a) : clS m m1 := fun b hb => h.1 b (by omega) (fun q => by have := hl b q; omega)
theorem clS.trans {m m1 m2 : MM} (h1 : clS m m1) (h2 : clS m1 m2) : clS m m2 := fun b hb => (h2 b hb).trans (h1 b hb)
theorem unw_take : ∀ (l : List (Nat × GV)) (g : Nat → GV) (n : Nat), unw g (l.take n) = (unw g l).take n
  | [], g, n => by simp [unw]
  | (s, p) :: r, g, 0 => rfl
  | (s, p) :: r, g, n + 1 => by
    simp only [List.take_succ_cons, unw]
    rw [unw_take r _ n]
theorem gset_back {g : Nat → GV} {s : Nat} {G : GV} : gset (gset g s G) s (g s) = g := by
  funext i
  unfold gset
  split
  · next h => rw [h]
  · rfl
theorem unw_len : ∀ (l : List (Nat × GV)) (g : Nat → GV), (unw g l).length = l.length
  | [], _ => rfl
  | (s, p) :: r, g => by
    show (unw (gset g s p) r).length + 1 = _
    rw [unw_len r]
    rfl
section R9
variable {E : am_E} {k : Nat} {m : MM} {γ : GM} {t : am_H} {a : AST} {Q : Int → MM → GM → am_H → Prop} {G : GV}
theorem RI.put {m1 : MM} {s : Nat} {G : GV} (h : RI m a) (hs : s < 3) (hf : fr [159, 160, 161] [3] m m1) (hv : vG G) (hn : nG G) (hEN : EN (m1 159) (gset a.1 s G)) (hK : KP m1 ((a.1 :: unw a.1 a.2.1).take 10)) (hne : a.1 s ≠ G) : RI m1 (aput a s G) := by
  have ea : aput a s G = (gset a.1 s G, ((s, a.1 s) :: a.2.1).take 10, a.2.2) := ifA_f hne
  rw [ea]
  obtain ⟨h1, h2, h3, h4, h5, h6⟩ := h
  refine ⟨hEN, ?_, ?_, ?_, fun i hi => ?_, h6⟩
  · show KP m1 (unw (gset a.1 s G) (((s, a.1 s) :: a.2.1).take 10))
    rw [unw_take]
    show KP m1 ((gset (gset a.1 s G) s (a.1 s) :: unw (gset (gset a.1 s G) s (a.1 s)) a.2.1).take 10)
    rw [gset_back]
    exact hK
  · unfold TPr
    rw [hf.2 32 (by decide), hf.2 33 (by decide), hf.2 34 (by decide), hf.1 182 (by decide) (by decide)]
    exact h3
  · unfold OUr
    rw [hf.2 53 (by decide), hf.1 194 (by decide) (by decide)]
    exact h4
  · show vG (gset a.1 s G i) ∧ nG (gset a.1 s G i)
    unfold gset
    split
    · exact ⟨hv, hn⟩
    · exact h5 i hi
theorem RI.same {m1 : MM} (h : RI m a) (hf : fr [159, 160, 161] [3] m m1) (hEN : EN (m1 159) a.1) (hK : KP m1 (unw a.1 a.2.1)) : RI m1 a := by
  obtain ⟨h1, h2, h3, h4, h5⟩ := h
  refine ⟨hEN, hK, ?_, ?_, h5⟩
  · unfold TPr
    rw [hf.2 32 (by decide), hf.2 33 (by decide), hf.2 34 (by decide), hf.1 182 (by decide) (by decide)]
    exact h3
  · unfold OUr
    rw [hf.2 53 (by decide), hf.1 194 (by decide) (by decide)]
    exact h4
theorem vG_nrm (h : vG G) : vG (nrm G) := ⟨h.1, fun e he => by
  have he : e < gn G.1 G.2.1 := he
  show 0 ≤ (if e < gn G.1 G.2.1 then G.2.2 e else 0) ∧ (if e < gn G.1 G.2.1 then G.2.2 e else 0) ≤ 3
  rw [if_pos he]
  exact h.2 e he⟩
theorem S_putsA {s v : Int} (hR : RI m a) (hG : RG m G) (hs : 0 ≤ s ∧ s < 3) (hv : rJ v) (hQ : ∀ m1, clS m m1 → RI m1 (aput a s.toNat (nrm G)) → Q v m1 γ t) : TI E (k + 1) 202 [.ref 158, .int (iI s), .int (iI v)] m γ t Q := by
  refine S_puts hR.1 (hR.2.2.2.2.1 s.toNat (by omega)).2 hR.2.1 hG hs hv (fun m1 he hf hE hK => ?_) (fun m1 he hf hE hK => ?_)
  · refine hQ m1 (hf.cl (by decide)) ?_
    rw [show aput a s.toNat (nrm G) = a from ifA_t he]
    exact hR.same hf hE hK
  · exact hQ m1 (hf.cl (by decide)) (hR.put (by omega) hf (vG_nrm hG.2.2.1) (nrm_nG _) hE hK he)
theorem R_undo (hR : RI m a) (hg : ∀ x ∈ a.2.1, vG x.2 ∧ nG x.2) (hQ : ∀ m1, clS m m1 → RI m1 (n_undo a) → Q (v_undo a) m1 γ t) : TI E k 198 [.ref 158] m γ t Q := by
  refine S_undo hR.2.1 (fun he => ?_) (fun w r m1 he hf hE hK => ?_)
  · cases hh : a.2.1 with
    | nil =>
      have hv : v_undo a = -1 := by unfold v_undo; rw [hh]
      have hn : n_undo a = a := by unfold n_undo; rw [hh]
      rw [hv, hn] at hQ
      exact hQ m (fun _ _ => rfl) hR
    | cons x y =>
      rw [hh] at he
      cases he
  · cases hh : a.2.1 with
    | nil =>
      rw [hh] at he
      cases he
    | cons x y =>
      have hv : v_undo a = (y.length : Int) := by unfold v_undo; rw [hh]
      have hn : n_undo a = (gset a.1 x.1 x.2, y, a.2.2) := by unfold n_undo; rw [hh]
      rw [hv, hn] at hQ
      rw [hh] at he
      have he2 : gset a.1 x.1 x.2 = w ∧ unw (gset a.1 x.1 x.2) y = r := by
        have : gset a.1 x.1 x.2 :: unw (gset a.1 x.1 x.2) y = w :: r := he
        injection this with h1 h2
        exact ⟨h1, h2⟩
      have hlen : r.length = y.length := by rw [← he2.2, unw_len]
      rw [hlen]
      refine hQ m1 (hf.cl (by decide)) ?_
      obtain ⟨h1, h2, h3, h4, h5, h6⟩ := hR
      refine ⟨by show EN (m1 159) (gset a.1 x.1 x.2); rw [he2.1]; exact hE, by show KP m1 (unw (gset a.1 x.1 x.2) y); rw [he2.2]; exact hK, ?_, ?_, fun i hi => ?_, h6⟩
      · unfold TPr
        rw [hf.2 32 (by decide), hf.2 33 (by decide), hf.2 34 (by decide), hf.1 182 (by decide) (by decide)]
        exact h3
      · unfold OUr
        rw [hf.2 53 (by decide), hf.1 194 (by decide) (by decide)]
        exact h4
      · show vG (gset a.1 x.1 x.2 i) ∧ nG (gset a.1 x.1 x.2 i)
        unfold gset
        split
        · exact hg x (by rw [hh]; exact List.mem_cons_self)
        · exact h5 i hi
theorem R_drops {s : Int} (hR : RI m a) (hs : rJ s) (hQ : ∀ m1, clS m m1 → RI m1 (n_drops a s) → Q (v_drops a s) m1 γ t) : TI E (k + 3) 199 [.ref 158, .int (iI s)] m γ t Q := by
  unfold v_drops n_drops at hQ
  refine S_drops hR.1 hR.2.1 hs (fun c => ?_) (fun c c1 => ?_) (fun m1 c1 hf hE hK => ?_)
  · have := hQ m
    have h0 : ¬ isG a.1 s := fun h => c ⟨h.1, h.2.1⟩
    rw [ift_f c, ifA_f h0] at this
    exact this (fun _ _ => rfl) hR
  · have := hQ m
    rw [ift_t c, ift_f c1, ifA_f c1] at this
    exact this (fun _ _ => rfl) hR
  · have := hQ m1
    rw [ift_t ⟨c1.1, c1.2.1⟩, ift_t c1, ifA_t c1] at this
    refine this (hf.cl (by decide)) (hR.put (by have := c1.1; have := c1.2.1; omega) hf ⟨Or.inl ⟨rfl, rfl⟩, fun e he => by show (0 : Int) ≤ 0 ∧ (0 : Int) ≤ 3; omega⟩ (fun _ _ => rfl) hE hK (fun q => ?_))
    have h1 := c1.2.2
    rw [q] at h1
    exact absurd h1 (by decide)
/-- how an edge is, changed -/
theorem RG_set {e : Nat} {d : Int} (h : RG m G) (he : e < gn G.1 G.2.1) (hd : 0 ≤ d ∧ d ≤ 3) : RG (up m 162 (up (m 162) e d)) (G.1, G.2.1, up G.2.2 e d) := by
  have hf : fr [162] [] m (up m 162 (up (m 162) e d)) := fr.refl.upa 162 (by decide) (by decide)
  refine ⟨h.1.fr hf (by decide) (by decide) (by decide) (by decide) (by decide) (by decide), fun e' he' => ?_, ⟨h.2.2.1.1, fun e' he' => ?_⟩, h.2.2.2⟩
  · show up (m 162) e d e' = up G.2.2 e d e'
    unfold up
    split
    · rfl
    · exact h.2.1 e' he'
  · show 0 ≤ up G.2.2 e d e' ∧ up G.2.2 e d e' ≤ 3
    unfold up
    split
    · exact hd
    · exact h.2.2.1.2 e' he'
theorem R_sets {s e w : Int} (hR : RI m a) (hs : rJ s) (he : rJ e) (hw : rJ w) (hQ : ∀ m1, clS m m1 → RI m1 (n_sets a s e w) → Q (v_sets a s e w) m1 γ t) : TI E (k + 6) 289 [.ref 158, .int (iI s), .int (iI e), .int (iI w)] m γ t Q := by
  unfold v_sets n_sets at hQ
  have h0 : ∀ m1, fr SL SF m m1 → ¬ (isE a s e ∧ 0 ≤ w ∧ w ≤ 3) → Q (-2) m1 γ t := fun m1 hf h => by
    have := hQ m1
    rw [ift_f h, ifA_f h] at this
    exact this (hf.cl (by decide)) (hR.move hf)
  refine vc_X9_sets hs he hw (S_isEdge hR hs he (fun m1 c hf => b0 (h0 m1 hf (fun h => c h.1))) (fun m1 c hf hG hS hP => b1 (S_in (by omega) (by decide) (by decide) (fun c2 => b1 ?_) (fun c2 => b0 (h0 m1 hf (fun h => c2 h.2))))))
  have hle := hG.le
  have c12 := c.2
  have hk := hG.2.2.1.2 e.toNat (by omega)
  rw [hG.2.1 e.toNat (by omega)]
  have hf2 : fr SL SF m1 (up m1 162 (up (m1 162) e.toNat w)) := fr.refl.upa 162 (by decide) (by decide)
  refine ⟨by omega, by omega, S_putsA (hR.move (hf.trans hf2)) (RG_set hG (by omega) c2) ⟨c.1.1, c.1.2.1⟩ (by omega) (fun m2 hc2 hR2 => ?_)⟩
  have := hQ m2
  rw [ift_t ⟨c, c2⟩, ifA_t ⟨c, c2⟩] at this
  rw [nrm_id (nG_up (hR.2.2.2.2.1 s.toNat (by have := c.1.1; have := c.1.2.1; omega)).2 (by omega))] at hR2
  exact this (((hf.trans hf2).cl (by decide)).trans hc2) hR2
theorem R_all {s w v : Int} (hR : RI m a) (hs : rJ s) (hw : rJ w) (hv : rJ v) (hQ : ∀ m1, clS m m1 → RI m1 (n_all a s w v) → Q (v_all a s w v) m1 γ t) : TI E (k + 5) 290 [.ref 158, .int (iI s), .int (iI w), .int (iI v)] m γ t Q := by
  unfold v_all n_all at hQ
  have h0 : ∀ m1, fr SL SF m m1 → ¬ (isG a.1 s ∧ (0 ≤ w ∧ w ≤ 3) ∧ 0 ≤ v ∧ v ≤ 3) → Q (-2) m1 γ t := fun m1 hf h => by
    have := hQ m1
    rw [ift_f h, ifA_f h] at this
    exact this (hf.cl (by decide)) (hR.move hf)
  refine vc_X9_all hs hw hv (S_isLaid hR hs (fun c => b0 (h0 m fr.refl (fun h => c h.1))) (fun m1 c hf hG hS hP => b1 (S_in (by omega) (by decide) (by decide) (fun c2 => b1 (S_in (by omega) (by decide) (by decide) (fun c3 => b1 ?_) (fun c3 => b0 (h0 m1 hf (fun h => c3 h.2.2))))) (fun c2 => b0 (h0 m1 hf (fun h => c2 h.2.1))))))
  have hle := hG.le
  have hn0 := (hR.2.2.2.2.1 s.toNat (by have := c.1; have := c.2.1; omega)).2
  have main : ∀ v8 : Int, rJ v8 → v8 = (if w = v then 0 else cnt (a.1 s.toNat).2.2 w (gn (a.1 s.toNat).1 (a.1 s.toNat).2.1)) → hd_X9_all_54 E (k + 4) s w v s w v v8 0 m1 γ t Q := by
    intro v8 h8 e8
    have go : ∀ e, e ≤ gn (a.1 s.toNat).1 (a.1 s.toNat).2.1 → ∀ m2, fr SL SF m m2 → RG m2 ((a.1 s.toNat).1, (a.1 s.toNat).2.1, fun e' => if e' < e ∧ (a.1 s.toNat).2.2 e' = w then v else (a.1 s.toNat).2.2 e') → hd_X9_all_54 E (k + 4) s w v s w v v8 (e : Int) m2 γ t Q := by
      refine upN ?_ ?_
      · intro m2 hf2 hG2
        have h6 := hG2.1.2.2.1
        simp only at h6
        refine vc_X9_all_54 hs hw hv hs hw hv h8 (by omega) ⟨fun q => absurd q (by omega), fun _ => S_putsA (hR.move hf2) hG2 ⟨c.1, c.2.1⟩ h8 (fun m3 hc3 hR3 => ?_)⟩
        have := hQ m3
        rw [ift_t ⟨c, c2, c3⟩, ifA_t ⟨c, c2, c3⟩, ← e8] at this
        have hnn : nG (gA (a.1 s.toNat) w v) := by
          intro e he
          have he : gn (a.1 s.toNat).1 (a.1 s.toNat).2.1 ≤ e := he
          show (if e < gn (a.1 s.toNat).1 (a.1 s.toNat).2.1 ∧ _ then v else (a.1 s.toNat).2.2 e) = 0
          rw [if_neg (fun q => by have := q.1; omega)]
          exact hn0 e he
        have e9 : nrm ((a.1 s.toNat).1, (a.1 s.toNat).2.1, fun e' => if e' < gn (a.1 s.toNat).1 (a.1 s.toNat).2.1 ∧ (a.1 s.toNat).2.2 e' = w then v else (a.1 s.toNat).2.2 e') = gA (a.1 s.toNat) w v := nrm_id hnn
        rw [e9] at hR3
        exact this ((hf2.cl (by decide)).trans hc3) hR3
      · intro e he ih m2 hf2 hG2
        have h6 := hG2.1.2.2.1
        simp only at h6
        have hk : m2 162 e = (a.1 s.toNat).2.2 e := by
          rw [hG2.2.1 e he]
          show (if e < e ∧ _ then v else (a.1 s.toNat).2.2 e) = _
          rw [if_neg (fun q => absurd q.1 (Nat.lt_irrefl _))]
        have step : ∀ d : Int, d = (if (a.1 s.toNat).2.2 e = w then v else (a.1 s.toNat).2.2 e) → hd_X9_all_54 E (k + 4) s w v s w v v8 ((e : Int) + 1) (up m2 162 (up (m2 162) e d)) γ t Q := by
          intro d hd
          have hdr : 0 ≤ d ∧ d ≤ 3 := by
            rw [hd]
            have := hG.2.2.1.2 e he
            split <;> omega
          have h1 := RG_set hG2 (e := e) (d := d) he hdr
          refine ih _ (hf2.upa 162 (by decide) (by decide)) ?_
          have e9 : up (fun e' => if e' < e ∧ (a.1 s.toNat).2.2 e' = w then v else (a.1 s.toNat).2.2 e') e d = fun e' => if e' < e + 1 ∧ (a.1 s.toNat).2.2 e' = w then v else (a.1 s.toNat).2.2 e' := by
            funext e'
            unfold up
            by_cases hee : e' = e
            · subst hee
              rw [if_pos rfl, hd]
              by_cases h3 : (a.1 s.toNat).2.2 e' = w
              · rw [if_pos h3, if_pos ⟨by omega, h3⟩]
              · rw [if_neg h3, if_neg (fun q => h3 q.2)]
            · rw [if_neg hee]
              dsimp only
              by_cases h3 : e' < e ∧ (a.1 s.toNat).2.2 e' = w
              · rw [if_pos h3, if_pos ⟨by omega, h3.2⟩]
              · rw [if_neg h3, if_neg (fun h4 => h3 ⟨by have := h4.1; omega, h4.2⟩)]
          simp only at h1
          rw [e9] at h1
          exact h1
        refine vc_X9_all_54 hs hw hv hs hw hv h8 (by omega) ⟨fun _ => ⟨by omega, ?_⟩, fun q => absurd (by omega) q⟩
        rw [Int.toNat_natCast, hk]
        refine ⟨fun q => ⟨by omega, step _ (by rw [if_pos q])⟩, fun q => ⟨by omega, by omega, step _ (by rw [if_neg q])⟩⟩
    refine go 0 (Nat.zero_le _) m1 hf ?_
    have e9 : ((a.1 s.toNat).1, (a.1 s.toNat).2.1, fun e' => if e' < 0 ∧ (a.1 s.toNat).2.2 e' = w then v else (a.1 s.toNat).2.2 e') = a.1 s.toNat := by
      show _ = ((a.1 s.toNat).1, (a.1 s.toNat).2.1, (a.1 s.toNat).2.2)
      congr 2
    rw [e9]
    exact hG
  have hcr := cnt_rng (a.1 s.toNat).2.2 w (gn (a.1 s.toNat).1 (a.1 s.toNat).2.1)
  have hce : cnt (m1 162) w (gn (a.1 s.toNat).1 (a.1 s.toNat).2.1) = cnt (a.1 s.toNat).2.2 w (gn (a.1 s.toNat).1 (a.1 s.toNat).2.1) := by
    have : ∀ n, n ≤ gn (a.1 s.toNat).1 (a.1 s.toNat).2.1 → cnt (m1 162) w n = cnt (a.1 s.toNat).2.2 w n := by
      intro n
      induction n with
      | zero => intro _; rfl
      | succ n ih => intro hn; simp only [cnt]; rw [ih (by omega), hG.2.1 n (by omega)]
    exact this _ (Nat.le_refl _)
  refine ⟨fun q => main 0 (by decide) (by rw [if_pos q]), fun q => S_many (by omega) hG.1.2.2.1 hle.2.2.2.2.1 ?_⟩
  rw [hce]
  exact main _ (by omega) (by rw [if_neg q])
end R9
