/-! ===== told: the reference ===== -/
abbrev FW : List Nat := [4, 5, 6, 33, 34, 35, 36, 37, 38, 39]
abbrev FL : List Nat := [162, 163, 164, 165]
section RM
variable {E : am_E} {k : Nat} {m : MM} {γ : GM} {t : am_H} {tp : List Int} {R : (Int × Int) × GV}
theorem BD.fr8 {m1 : MM} {l fl : List Nat} (h : BD R m) (hf : fr l fl m m1) (h1 : 39 ∉ fl) (h2 : 33 ∉ fl) (h3 : 34 ∉ fl) : BD R m1 := by
  unfold BD
  rw [hf.2 39 h1, hf.2 33 h2, hf.2 34 h3]
  exact h
theorem OKs.fr8 {m1 : MM} {s : PS} {l fl : List Nat} (h : OKs R tp m s) (hf : fr l fl m m1) (h1 : ∀ j, 32 ≤ j → j ≤ 39 → j ∉ fl) (h2 : 182 ∉ l) : OKs R tp m1 s := by
  unfold OKs RTk TPm
  rw [hf.2 39 (h1 _ (by decide) (by decide)), hf.2 38 (h1 _ (by decide) (by decide)), hf.2 37 (h1 _ (by decide) (by decide)), hf.2 36 (h1 _ (by decide) (by decide)), hf.2 35 (h1 _ (by decide) (by decide)), hf.2 34 (h1 _ (by decide) (by decide)), hf.2 33 (h1 _ (by decide) (by decide)), hf.2 32 (h1 _ (by decide) (by decide)), hf.1 182 (by decide) h2]
  exact h
theorem L99B {Q : Int → MM → GM → am_H → Prop} {x : Int} (hx : rJ x) (h : BD R m) (hQ : Q (-4) (up m 158 (up (m 158) 32 0)) γ t) : hd_X9_told_99 E (k + 6) x x m γ t Q := vc_X9_told_99 hx hx ⟨fun c => absurd c h.b, fun _ => hQ⟩
theorem L99 {Q : Int → MM → GM → am_H → Prop} {x : Int} (hE : EV E) (hx : rJ x) : ∀ (n : Nat) (m : MM) (s : PS), OKs R tp m s → s.1 = 4 → tp.length < n + s.2.2.2.2.2 → GRD m s.2.2.2.2.1 → (∀ m1, BD R m1 → fr [162] FT m m1 → Q (-4) (up m1 158 (up (m1 158) 32 0)) γ t) → (∀ m1 s', OKs R tp m1 s' → s'.1 = 4 → kst tp s'.2.2.2.2.2 = 0 → GRD m1 s'.2.2.2.2.1 → fr [162] FT m m1 → TV E (k + 6) 210 [.ref 158] (up m1 158 (up (m1 158) 32 0)) γ t (fun m9 γ9 t9 => TI E (k + 6) 202 [.ref 158, .int (iI x), .int (iI (m9 158 16))] m9 γ9 t9 (fun v11 m11 γ11 t11 => Q v11 m11 γ11 t11))) → hd_X9_told_99 E (k + 6) x x m γ t Q := by
  intro n
  induction n with
  | zero =>
    intro m s hO h4 hl
    have := hO.2.2.2.2.2.1
    omega
  | succ n ih =>
    intro m s hO h4 hl hG qb qg
    have g4 := hO.1.2.2.2.1
    have g7 := hO.1.2.2.2.2.2.2
    refine vc_X9_told_99 hx hx ⟨fun _ => ⟨fun c => qg m s hO h4 (by omega) hG fr.refl, fun c => ?_⟩, fun c => absurd g7 c⟩
    refine S_readsLine hE hO h4 (by omega) hG (fun m1 hB f1 => L99B hx hB (qb m1 hB f1)) (fun m1 s' hO1 h41 hp hG1 f1 => ?_)
    exact ih m1 s' hO1 h41 (by omega) hG1 (fun m2 hB f2 => qb m2 hB (f1.trans f2)) (fun m2 s2 hO2 h42 hk2 hG2 f2 => qg m2 s2 hO2 h42 hk2 hG2 (f1.trans f2))
/-- the cleared row -/
theorem L78 {Q : Int → MM → GM → am_H → Prop} {x : Int} (hx : rJ x) (hQ : ∀ F : Nat → Int, (∀ e, e < 24 → F e = 0) → hd_X9_told_99 E (k + 6) x x (up m 162 F) γ t Q) : hd_X9_told_78 E (k + 6) x x 0 m γ t Q := by
  have key : ∀ e : Nat, e ≤ 24 → ∀ F : Nat → Int, (∀ j, j < e → F j = 0) → hd_X9_told_78 E (k + 6) x x (e : Int) (up m 162 F) γ t Q := by
    refine upN (P := fun e => ∀ F : Nat → Int, (∀ j, j < e → F j = 0) → hd_X9_told_78 E (k + 6) x x (e : Int) (up m 162 F) γ t Q) (fun F hF => ?_) (fun e he ih F hF => ?_)
    · exact vc_X9_told_78 hx hx (by decide) ⟨fun c => absurd c (by decide), fun _ => hQ F hF⟩
    · refine vc_X9_told_78 hx hx (by omega) ⟨fun _ => ⟨by omega, ?_⟩, fun c => absurd (by omega) c⟩
      rw [up_up, up_self]
      refine ih _ (fun j hj => ?_)
      unfold up
      split
      · rfl
      · exact hF j (by omega)
  have := key 0 (by decide) (m 162) (fun j hj => by omega)
  rw [up_id] at this
  exact this
/-- from the grid's numbers on -/
theorem T78 {Q : Int → MM → GM → am_H → Prop} {x : Int} {m0 : MM} (hE : EV E) (hx : rJ x) {R0 C0 : Int} (hR0 : 1 ≤ R0 ∧ R0 ≤ 4) (hC0 : 1 ≤ C0 ∧ C0 ≤ 4) (hf : fr FL FW m0 m) (hOB : BD R m ∨ ∃ s : PS, OKs R tp m s ∧ s.1 = 4 ∧ s.2.2.2.2.1 = (R0.toNat, C0.toNat, fun _ => 0)) (qb : ∀ m1, BD R m1 → fr FL FW m0 m1 → Q (-4) (up m1 158 (up (m1 158) 32 0)) γ t) (qg : ∀ m1 s', OKs R tp m1 s' → s'.1 = 4 → kst tp s'.2.2.2.2.2 = 0 → GRD m1 s'.2.2.2.2.1 → fr FL FW m0 m1 → TV E (k + 6) 210 [.ref 158] (up m1 158 (up (m1 158) 32 0)) γ t (fun m9 γ9 t9 => TI E (k + 6) 202 [.ref 158, .int (iI x), .int (iI (m9 158 16))] m9 γ9 t9 (fun v11 m11 γ11 t11 => Q v11 m11 γ11 t11))) : TV E (k + 6) 200 [.ref 158, .int (iI R0), .int (iI C0)] m γ t (fun m14 γ14 t14 => hd_X9_told_78 E (k + 6) x x 0 m14 γ14 t14 Q) := by
  have e1 : R0 = ((R0.toNat : Nat) : Int) := by omega
  have e2 : C0 = ((C0.toNat : Nat) : Int) := by omega
  generalize R0.toNat = R1 at *
  generalize C0.toNat = C1 at *
  subst e1 e2
  refine S_shapes (by omega) (by omega) (fun m1 f1 hS => L78 hx (fun F hF => ?_))
  have f2 : fr FL FW m0 m1 := hf.trans (f1.mono (by decide) (by decide))
  have f3 : fr FL FW m0 (up m1 162 F) := f2.upa 162 (by decide) (by decide)
  have f4 : fr [162] [] m1 (up m1 162 F) := fr.refl.upa 162 (by decide) (by decide)
  rcases hOB with hB | ⟨s, hO, h4, hs⟩
  · exact L99B hx ((hB.fr8 f1 (by decide) (by decide) (by decide)).fr8 f4 (by decide) (by decide) (by decide)) (qb _ ((hB.fr8 f1 (by decide) (by decide) (by decide)).fr8 f4 (by decide) (by decide) (by decide)) f3)
  · have hO1 : OKs R tp (up m1 162 F) s := (hO.fr8 f1 (fun j h1 h2 => by simp only [List.mem_cons, List.not_mem_nil, or_false]; omega) (by decide)).fr8 f4 (fun j h1 h2 => List.not_mem_nil) (by decide)
    refine L99 hE hx (tp.length + 1) _ s hO1 h4 (by omega) ?_ (fun m2 hB f5 => qb m2 hB (f3.trans (f5.mono (by decide) (by decide)))) (fun m2 s2 hO2 h42 hk2 hG2 f5 => qg m2 s2 hO2 h42 hk2 hG2 (f3.trans (f5.mono (by decide) (by decide))))
    rw [hs]
    refine ⟨hS.fr f4 (by decide) (by decide) (by decide) (by decide) (by decide) (by decide), fun e he => ?_⟩
    rw [up_self]
    exact hF e he
theorem R_told {a : AST} {Q : Int → MM → GM → am_H → Prop} {x : Int} (hE : EV E) (hR : RI m a) (hb : ∀ y ∈ a.2.2.1, 0 ≤ y ∧ y < 256) (hx : rJ x) (hQ : ∀ m1, clS m m1 → RI m1 (n_told a x) → Q (v_told a x) m1 γ t) : TI E (k + 7) 232 [.ref 158, .int (iI x)] m γ t Q := by
  unfold v_told n_told at hQ
  refine vc_X9_told hx (S_isSlot hx (fun c => b1 ?_) (fun c => b0 ?_))
  rotate_left
  · have := hQ m
    rw [ift_f c, ifA_f c] at this
    exact this (fun _ _ => rfl) hR
  have hQ := fun m1 => hQ m1
  simp only [ift_t c, ifA_t c] at hQ
  generalize htp : a.2.2.1 = tp at *
  generalize hRR : RUN tp ps0 = R at *
  rw [up_up, up_up, up_up]
  generalize hF0 : up (up (up (up (m 158) 33 0) 34 (-1)) 39 0) 35 0 = F0
  have hff : ∀ j, j ≠ 33 → j ≠ 34 → j ≠ 39 → j ≠ 35 → F0 j = m 158 j := fun j h1 h2 h3 h4 => by
    rw [← hF0, up_ne h4, up_ne h3, up_ne h2, up_ne h1]
  have fr0 : fr FL FW m (up m 158 F0) := fr.refl.up8 (fun j hj => hff j (fun q => hj (by rw [q]; decide)) (fun q => hj (by rw [q]; decide)) (fun q => hj (by rw [q]; decide)) (fun q => hj (by rw [q]; decide)))
  have T := hR.2.2.1
  rw [htp] at T
  have hlen : tp.length ≤ 400 := by
    have := hR.2.2.2.2.2.1
    rw [htp] at this
    exact this
  have hTP : TPm (up m 158 F0) tp := by
    refine ⟨?_, hlen, fun i hi => ?_⟩
    · rw [up_self, hff 32 (by decide) (by decide) (by decide) (by decide)]
      exact T.1
    · have e : tp.getD i 0 = tp[i] := by rw [List.getD_eq_getElem?_getD, List.getElem?_eq_getElem hi]; rfl
      refine ⟨?_, ?_⟩
      · rw [up_ne (by decide), e]
        exact T.2.1 i hi
      · rw [e]
        exact hb _ (List.getElem_mem hi)
  have qb : ∀ m1, BD R m1 → fr FL FW m m1 → Q (-4) (up m1 158 (up (m1 158) 32 0)) γ t := by
    intro m1 hB hf
    have := hQ (up m1 158 (up (m1 158) 32 0))
    rw [if_neg hB.2.2.2, if_neg hB.2.2.2] at this
    have hf2 : fr FL (32 :: FW) m (up m1 158 (up (m1 158) 32 0)) := (hf.mono (fun a h => h) (fun a h => List.mem_cons_of_mem _ h)).upf List.mem_cons_self
    refine this (hf2.cl (by decide)) ?_
    unfold aTd
    rw [htp, hRR]
    refine hR.tape hf2 (by decide) (by decide) (by decide) (by decide) (by decide) ⟨?_, fun i h => absurd h (Nat.not_lt_zero i), ?_, ?_⟩ (Nat.zero_le _)
    · rw [up_self, up_self]; rfl
    · rw [up_self, up_ne (by decide)]; exact hB.2.1
    · rw [up_self, up_ne (by decide)]; exact hB.2.2.1
  have qg : ∀ m1 s', OKs R tp m1 s' → s'.1 = 4 → kst tp s'.2.2.2.2.2 = 0 → GRD m1 s'.2.2.2.2.1 → fr FL FW m m1 → TV E (k + 6) 210 [.ref 158] (up m1 158 (up (m1 158) 32 0)) γ t (fun m9 γ9 t9 => TI E (k + 6) 202 [.ref 158, .int (iI x), .int (iI (m9 158 16))] m9 γ9 t9 (fun v11 m11 γ11 t11 => Q v11 m11 γ11 t11)) := by
    intro m1 s' hO h4 hk hG hf
    have hRe := RUN_e hk h4
    rw [hO.2.2.2.1] at hRe
    obtain ⟨v1, v2, v3, v4, v5, v6, v7⟩ := hO.2.2.2.2
    have hf2 : fr FL (32 :: FW) m (up m1 158 (up (m1 158) 32 0)) := (hf.mono (fun a h => h) (fun a h => List.mem_cons_of_mem _ h)).upf List.mem_cons_self
    have hf3 : fr [] [32] m1 (up m1 158 (up (m1 158) 32 0)) := fr.refl.upf (by decide)
    have hRI : RI (up m1 158 (up (m1 158) 32 0)) (aTd a) := by
      unfold aTd
      rw [htp, hRR]
      refine hR.tape hf2 (by decide) (by decide) (by decide) (by decide) (by decide) ⟨?_, fun i h => absurd h (Nat.not_lt_zero i), ?_, ?_⟩ (Nat.zero_le _)
      · rw [up_self, up_self]; rfl
      · rw [up_self, up_ne (by decide), hRe]; exact hO.2.1
      · rw [up_self, up_ne (by decide), hRe]; exact hO.2.2.1
    have hle := v4.1.1.le
    have hgn := gn_le _ hle.1 _ hle.2
    have hRG : RG (up m1 158 (up (m1 158) 32 0)) s'.2.2.2.2.1 := by
      refine ⟨hG.1.fr hf3 (by decide) (by decide) (by decide) (by decide) (by decide) (by decide), fun e he => ?_, v4.1, v5 (by omega)⟩
      rw [up_ne (by decide)]
      exact hG.2 e (by omega)
    refine S_goes hRG (fun m9 f9 hS => ?_)
    have hRI9 := hRI.move (f9.mono (by decide) (by decide))
    have hRG9 := hRG.fr f9 (by decide) (by decide) (by decide) (by decide) (by decide) (by decide) (by decide)
    have hns := hS.2.2
    have := nS64 v4.1
    rw [hns]
    refine S_putsA hRI9 hRG9 c (by omega) (fun m11 hc h11 => ?_)
    have := hQ m11
    rw [hRe] at this
    rw [if_pos rfl, if_pos rfl] at this
    rw [nrm_id v4.2] at h11
    exact this (fun b hb => (hc b hb).trans ((f9.cl (by decide) b hb).trans (hf2.cl (by decide) b hb))) h11
  refine S_next 0 hTP (Nat.zero_le _) (by rw [up_self, ← hF0, up_self]; rfl) (by rw [up_self, ← hF0, up_ne (by decide), up_self]) (fun F e1 e2 => ?_)
  generalize hm7 : up (up m 158 F0) 158 F = m7 at *
  have f7 : fr FL FW m m7 := by
    rw [← hm7]
    refine fr0.trans (fr.refl.up8 (fun j hj => e1 j (fun q => hj ?_)))
    have : j = 35 ∨ j = 36 ∨ j = 37 ∨ j = 38 := by omega
    rcases this with rfl | rfl | rfl | rfl <;> decide
  have O0 : OKs R tp m7 ps0 := by
    refine ⟨e2, ?_, ?_, hRR, PV_0 tp⟩
    · rw [← hm7, up_self, e1 33 (by decide), up_self, ← hF0, up_ne (by decide), up_ne (by decide), up_ne (by decide), up_self]
    · rw [← hm7, up_self, e1 34 (by decide), up_self, ← hF0, up_ne (by decide), up_ne (by decide), up_self]
  have hne0 : ¬ (kst tp ps0.2.2.2.2.2 = 0 ∧ ps0.1 = 4) := fun z => absurd z.2 (by decide)
  have efl0 : fl tp ps0 = ift (kst tp 0 = 1 ∧ kv tp 0 = 0) 0 1 := rfl
  have bnd : ∀ m1, fr [] FT m7 m1 → fr FL FW m m1 := fun m1 h => f7.trans (h.mono (by decide) (by decide))
  -- all that comes after a fault
  have bad12 : ∀ (m1 : MM) (v10 v11 : Int), 1 ≤ v10 ∧ v10 ≤ 4 → 1 ≤ v11 ∧ v11 ≤ 4 → BD R m1 → fr FL FW m m1 → TI E (k + 6) 228 [.ref 158, .int (iI 59)] m1 γ t (fun v12 m12 γ12 t12 => TV E (k + 6) 227 [.ref 158, .int (iI v12)] m12 γ12 t12 (fun m13 γ13 t13 => TV E (k + 6) 200 [.ref 158, .int (iI v10), .int (iI v11)] m13 γ13 t13 (fun m14 γ14 t14 => hd_X9_told_78 E (k + 6) x x 0 m14 γ14 t14 Q))) := fun m1 v10 v11 h1 h2 hB hf => S_isSignB (by omega) hB.b (S_mustB (Or.inl rfl) hB.b (T78 (tp := tp) hE hx h1 h2 hf (Or.inl hB) qb qg))
  have bad11 : ∀ (m1 : MM) (v10 : Int), 1 ≤ v10 ∧ v10 ≤ 4 → BD R m1 → fr FL FW m m1 → TI E (k + 6) 229 [.ref 158, .int (iI 1), .int (iI 4)] m1 γ t (fun v11 m11 γ11 t11 => TI E (k + 6) 228 [.ref 158, .int (iI 59)] m11 γ11 t11 (fun v12 m12 γ12 t12 => TV E (k + 6) 227 [.ref 158, .int (iI v12)] m12 γ12 t12 (fun m13 γ13 t13 => TV E (k + 6) 200 [.ref 158, .int (iI v10), .int (iI v11)] m13 γ13 t13 (fun m14 γ14 t14 => hd_X9_told_78 E (k + 6) x x 0 m14 γ14 t14 Q)))) := fun m1 v10 h1 hB hf => S_numB (by omega) (by omega) hB.b (bad12 m1 v10 1 h1 (by decide) hB hf)
  have must0 : ∀ b : Int, (b = 1 ∧ fl tp ps0 = 0) ∨ (b = 0 ∧ fl tp ps0 = 1) → TV E (k + 6) 227 [.ref 158, .int (iI b)] m7 γ t (fun m9 γ9 t9 => TI E (k + 6) 229 [.ref 158, .int (iI 1), .int (iI 4)] m9 γ9 t9 (fun v10 m10 γ10 t10 => TI E (k + 6) 229 [.ref 158, .int (iI 1), .int (iI 4)] m10 γ10 t10 (fun v11 m11 γ11 t11 => TI E (k + 6) 228 [.ref 158, .int (iI 59)] m11 γ11 t11 (fun v12 m12 γ12 t12 => TV E (k + 6) 227 [.ref 158, .int (iI v12)] m12 γ12 t12 (fun m13 γ13 t13 => TV E (k + 6) 200 [.ref 158, .int (iI v10), .int (iI v11)] m13 γ13 t13 (fun m14 γ14 t14 => hd_X9_told_78 E (k + 6) x x 0 m14 γ14 t14 Q)))))) := by
    intro b hbb
    refine S_mustR O0 hne0 (by omega) (fun z => by omega) (fun z => by omega) (fun m1 hB f1 => S_numB (by omega) (by omega) hB.b (bad11 m1 1 (by decide) hB (bnd m1 f1))) (fun m1 hx0 O1 f1 => ?_)
    have en0 : nxs tp ps0 = (1, 0, 0, 0, g00, kq tp 0) := rfl
    rw [en0] at O1
    generalize kq tp 0 = p1 at *
    have ef1 : fl tp (1, 0, 0, 0, g00, p1) = ift (kst tp p1 = 2) (ift (1 ≤ kv tp p1 ∧ kv tp p1 ≤ 4) 0 2) 1 := rfl
    refine S_numR O1 (by decide) (by decide) (fun z => xE z.2 rfl) (fun q => by rw [ef1]; exact ift_f q) (fun q1 q2 => by rw [ef1, ift_t q1]; exact ift_f q2) (fun q1 q2 => by rw [ef1, ift_t q1]; exact ift_t q2) (fun m2 hB f2 => bad11 m2 1 (by decide) hB (bnd m2 (f1.trans f2))) (fun m2 hr1 hx1 O2 f2 => ?_)
    have en1 : nxs tp (1, 0, 0, 0, g00, p1) = (2, kv tp p1, 0, 0, g00, kq tp p1) := rfl
    rw [en1] at O2
    dsimp only at hr1 ⊢
    generalize kv tp p1 = v10 at *
    generalize kq tp p1 = p2 at *
    have ef2 : fl tp (2, v10, 0, 0, g00, p2) = ift (kst tp p2 = 2) (ift (1 ≤ kv tp p2 ∧ kv tp p2 ≤ 4) 0 2) 1 := rfl
    refine S_numR O2 (by decide) (by decide) (fun z => xE z.2 rfl) (fun q => by rw [ef2]; exact ift_f q) (fun q1 q2 => by rw [ef2, ift_t q1]; exact ift_f q2) (fun q1 q2 => by rw [ef2, ift_t q1]; exact ift_t q2) (fun m3 hB f3 => bad12 m3 v10 1 hr1 (by decide) hB (bnd m3 ((f1.trans f2).trans f3))) (fun m3 hr2 hx2 O3 f3 => ?_)
    have en2 : nxs tp (2, v10, 0, 0, g00, p2) = (3, v10, 0, 0, (v10.toNat, (kv tp p2).toNat, fun _ => 0), kq tp p2) := rfl
    rw [en2] at O3
    dsimp only at hr2 ⊢
    generalize kv tp p2 = v11 at *
    generalize kq tp p2 = p3 at *
    have f33 := bnd m3 ((f1.trans f2).trans f3)
    have ef3 : fl tp (3, v10, 0, 0, (v10.toNat, v11.toNat, fun _ => 0), p3) = ift (kst tp p3 = 3 ∧ kv tp p3 = 59) 0 1 := rfl
    have fin : ∀ b : Int, (b = 1 ∧ fl tp (3, v10, 0, 0, (v10.toNat, v11.toNat, fun _ => 0), p3) = 0) ∨ (b = 0 ∧ fl tp (3, v10, 0, 0, (v10.toNat, v11.toNat, fun _ => 0), p3) = 1) → TV E (k + 6) 227 [.ref 158, .int (iI b)] m3 γ t (fun m13 γ13 t13 => TV E (k + 6) 200 [.ref 158, .int (iI v10), .int (iI v11)] m13 γ13 t13 (fun m14 γ14 t14 => hd_X9_told_78 E (k + 6) x x 0 m14 γ14 t14 Q)) := by
      intro b hbb
      refine S_mustR O3 (fun z => xE z.2 rfl) (by omega) (fun z => by omega) (fun z => by omega) (fun m4 hB f4 => T78 (tp := tp) hE hx hr1 hr2 (f33.trans (f4.mono (by decide) (by decide))) (Or.inl hB) qb qg) (fun m4 hx3 O4 f4 => ?_)
      exact T78 hE hx hr1 hr2 (f33.trans (f4.mono (by decide) (by decide))) (Or.inr ⟨_, O4, rfl, rfl⟩) qb qg
    exact S_isSignR p3 O3.1 (by decide) (fun c => fin 1 (Or.inl ⟨rfl, by rw [ef3]; exact ift_t c⟩)) (fun c => fin 0 (Or.inr ⟨rfl, by rw [ef3]; exact ift_f c⟩))
  refine S_isWord 12 0 hE (by decide) e2 (fun c1 => must0 1 (Or.inl ⟨rfl, ?_⟩)) (fun c1 => must0 0 (Or.inr ⟨rfl, ?_⟩))
  · rw [efl0]
    exact ift_t ⟨c1.1, (kv_word (i := 0) c1.1 (by decide)).mpr c1.2⟩
  · rw [efl0]
    exact ift_f (fun z => c1 ⟨z.1, (kv_word (i := 0) z.1 (by decide)).mp z.2⟩)
end RM
