/-! ===== Settings: clear, joins, the rim ===== -/
section FL
variable {E : am_E} {k : Nat} {h : am_H}
theorem wp_alenL {M pc : Nat} {L : am_L} {r : List Value} {Q : Option Value → am_H → Prop} {a n : Nat} {F : Nat → Int} (hc : am_code M pc = some .arraylength) (hh : h[a]? = some (cL n F)) (ha : a < 1000000) (w : wp E k M (pc + 1) L (.int (iI n) :: r) h Q) : wp E k M pc L (.ref a :: r) h Q := by
  refine wp_s (q := (pc + 1, L, .int (iI n) :: r, h)) hc ?_ w
  simp only [am_s, am_arr, if_pos ha, hh, cL]
  rfl
theorem m_fillL_l {a n : Nat} {v : Int} {F : Nat → Int} (ha : a < 1000000) (hn : n ≤ 100000) : ∀ (m i : Nat) (h : am_H), n - i = m → i ≤ n → h[a]? = some (cL n (flq i v F)) → wp E k 319 6 [some (.ref a), some (.long (lI v)), none, some (.int (iI (i : Int))), some (.int (iI (n : Int)))] [] h (fun r h1 => r = none ∧ h1.length = h.length ∧ h1[a]? = some (cL n (flq n v F)) ∧ ∀ b : Nat, b ≠ a → h1[b]? = h[b]?)
  | m, i, h, hm, hi, hh => by
    have ih : ∀ (i' : Nat) {h' : am_H}, n - i' < m → i' ≤ n → h'[a]? = some (cL n (flq i' v F)) → wp E k 319 6 [some (.ref a), some (.long (lI v)), none, some (.int (iI (i' : Int))), some (.int (iI (n : Int)))] [] h' (fun r h1 => r = none ∧ h1.length = h'.length ∧ h1[a]? = some (cL n (flq n v F)) ∧ ∀ b : Nat, b ≠ a → h1[b]? = h'[b]?) := fun i' h' h1 h2 h3 => m_fillL_l ha hn (n - i') i' h' rfl h2 h3
    refine wp_g (n := 2) (pc' := 9) (L' := [some (.ref a), some (.long (lI v)), none, some (.int (iI (i : Int))), some (.int (iI (n : Int)))]) (st' := [.int (iI (n : Int)), .int (iI (i : Int))]) rfl ?_
    refine wp_icmpI rfl rfl (by omega) (by omega) (by omega) (by omega) (fun c1 => ?_) (fun c1 => ?_)
    · have c1 : (((n : Int) : Int) ≤ ((i : Int) : Int)) := c1
      refine wp_vret rfl rfl ?_
      have hin : i = n := by omega
      subst hin
      exact ⟨rfl, rfl, hh, fun b _ => rfl⟩
    · have c1 : (¬ ((n : Int) : Int) ≤ ((i : Int) : Int)) := c1
      refine wp_g (n := 3) (pc' := 15) (L' := [some (.ref a), some (.long (lI v)), none, some (.int (iI (i : Int))), some (.int (iI (n : Int)))]) (st' := [.long (lI v), .int (iI (i : Int)), .ref a]) rfl ?_
      refine wp_lasF rfl hh (by omega) (by omega) (by omega) (fun h1 hl1 hz1 hf1 => ?_)
      have hh : h1[a]? = some (cL n (up (flq i v F) ((i : Int)).toNat v)) := hz1
      refine wp_iinc (L' := [some (.ref a), some (.long (lI v)), none, some (.int (iI ((i : Int) + 1))), some (.int (iI (n : Int)))]) rfl rfl rfl ?_
      refine wp_g (n := 1) (pc' := 6) (L' := [some (.ref a), some (.long (lI v)), none, some (.int (iI ((i : Int) + 1))), some (.int (iI (n : Int)))]) (st' := []) rfl ?_
      rw [Int.toNat_natCast, flq_up] at hh
      exact (wp_L (ih (i + 1) (by omega) (by omega) hh) (by rw [Int.natCast_add]; rfl)).mono (fun r h2 q => ⟨q.1, q.2.1.trans hl1, q.2.2.1, fun b hb => (q.2.2.2 b hb).trans (hf1 b hb)⟩)
  termination_by m => m
theorem m_fillL {a n : Nat} {v : Int} {F : Nat → Int} (hh : h[a]? = some (cL n F)) (ha : a < 1000000) (hn : n ≤ 100000) : wp E k 319 0 (am_entry [.ref a, .long (lI v)] 5) [] h (fun r h1 => r = none ∧ h1.length = h.length ∧ h1[a]? = some (cL n (flq n v F)) ∧ ∀ b : Nat, b ≠ a → h1[b]? = h[b]?) := by
  refine wp_g (n := 3) (pc' := 3) (L' := [some (.ref a), some (.long (lI v)), none, some (.int (iI 0)), none]) (st' := [.ref a]) rfl ?_
  refine wp_alenL rfl hh ha ?_
  refine wp_g (n := 1) (pc' := 6) (L' := [some (.ref a), some (.long (lI v)), none, some (.int (iI 0)), some (.int (iI (n : Int)))]) (st' := []) rfl ?_
  exact m_fillL_l ha hn n 0 h rfl (by omega) (by rw [flq_0]; exact hh)
end FL
section CL5
variable {E : am_E} {k : Nat} {m : MM} {γ : GM} {t : am_H}
theorem S_fillL {Q : MM → GM → am_H → Prop} {a : Nat} {v : Int} (n : Nat) (ha : ncb a = true) (hq : lay a = (3, n, [])) (hl : lcb a = true) (hn : n ≤ 100000) (hv : rK v) (hQ : Q (up m a (flq n v (m a))) γ t) : TV E k 319 [.ref a, .long (lI v)] m γ t Q := fun h S => by
  have hh := S.1 a (nc ha)
  rw [hq] at hh
  refine (m_fillL (F := m a) (n := n) (v := v) hh (by have := nc ha; unfold ncel at this; omega) hn).mono (fun r h1 q => ⟨_, γ, t, q.1, S.set a (nc ha) q.2.1 ?_ q.2.2.2 (fun j => ?_), hQ⟩)
  · rw [hq]
    exact q.2.2.1
  · have := S.rl a j
    refine ⟨?_, ?_, fun z => absurd (lc hl) z⟩ <;> (unfold flq; split <;> omega)
theorem xr_D : ∀ n, n < 128 → bXor ((n : Nat) : Int) 1 = (js0.1 n : Int) := by decide +kernel
theorem row5 : ∀ e, e < 13 → ncb (37 + e) = true ∧ lay (37 + e) = (0, 17, []) ∧ lcb (37 + e) = false := by decide
theorem S_clear5 {Q : MM → GM → am_H → Prop} (hQ : ∀ m1, m1 28 1 = 0 → (∀ x, x < 128 → m1 33 x = (js0.1 x : Int)) → (∀ r, r < 13 → ∀ n, n < 17 → m1 (37 + r) n = 0) → (∀ j, j < 201 → m1 50 j = 0) → (∀ b, ¬ (28 ≤ b ∧ b ≤ 50) → m1 b = m b) → Q m1 γ t) : TV E (k + 1) 62 [.ref 28] m γ t Q := by
  refine vc_X5_clear ?_
  refine upN (n := 128) (P := fun e => ∀ m1 : MM, m1 28 1 = 0 → (∀ x, x < e → m1 33 x = (js0.1 x : Int)) → (∀ b, ¬ (28 ≤ b ∧ b ≤ 50) → m1 b = m b) → hd_X5_clear_7 E k (e : Int) m1 γ t Q) ?_ (fun e he ih => ?_) 0 (Nat.zero_le _) _ (by rw [up_self, up_self]) (fun x hx => absurd hx (Nat.not_lt_zero x)) (fun b hb => up_ne (by omega))
  · intro m1 a1 a2 a3
    refine vc_X5_clear_7 (by omega) ⟨fun z => absurd z (by omega), fun _ => ?_⟩
    refine upN (n := 13) (P := fun e => ∀ m2 : MM, m2 28 1 = 0 → (∀ x, x < 128 → m2 33 x = (js0.1 x : Int)) → (∀ r, r < e → ∀ n, n < 17 → m2 (37 + r) n = 0) → (∀ b, ¬ (28 ≤ b ∧ b ≤ 50) → m2 b = m b) → hd_X5_clear_33 E k (e : Int) m2 γ t Q) ?_ (fun e he ih => ?_) 0 (Nat.zero_le _) m1 a1 a2 (fun r hr => absurd hr (Nat.not_lt_zero r)) a3
    · intro m2 b1 b2 b3 b4
      refine vc_X5_clear_33 (by omega) ⟨fun z => absurd z (by omega), fun _ => S_fillL 201 rfl rfl rfl (by decide) (by omega) ?_⟩
      refine hQ _ ?_ (fun x hx => ?_) (fun r hr n hn => ?_) (fun j hj => ?_) (fun b hb => ?_)
      · rw [up_ne (by decide)]; exact b1
      · rw [up_ne (by decide)]; exact b2 x hx
      · rw [up_ne (by omega)]; exact b3 r hr n hn
      · rw [up_self]; exact if_pos hj
      · rw [up_ne (by omega)]; exact b4 b hb
    · intro m2 b1 b2 b3 b4
      refine vc_X5_clear_33 (by omega) ⟨fun _ => ⟨by omega, ?_⟩, fun z => absurd (by omega) z⟩
      rw [Int.toNat_natCast]
      obtain ⟨r1, r2, r3⟩ := row5 e he
      refine S_fill 17 r1 r2 r3 (by decide) (by omega) (ih _ ?_ (fun x hx => ?_) (fun r hr n hn => ?_) (fun b hb => ?_))
      · rw [up_ne (by omega)]; exact b1
      · rw [up_ne (by omega)]; exact b2 x hx
      · by_cases c : r = e
        · subst c
          rw [up_self]; exact if_pos hn
        · rw [up_ne (by omega)]; exact b3 r (by omega) n hn
      · rw [up_ne (by omega)]; exact b4 b hb
  · intro m1 a1 a2 a3
    refine vc_X5_clear_7 (by omega) ⟨fun _ => ⟨by omega, ?_⟩, fun z => absurd (by omega) z⟩
    rw [Int.toNat_natCast, xr_D e he]
    refine ih _ ?_ (fun x hx => ?_) (fun b hb => ?_)
    · rw [up_ne (by decide)]; exact a1
    · rw [up_self]
      by_cases c : x = e
      · subst c
        rw [up_self]
      · rw [up_ne c]; exact a2 x (by omega)
    · rw [up_ne (by omega)]; exact a3 b hb
/-- mates as the class keeps them -/
def MU (row : Nat → Int) (s : JT) : Prop := ∀ x, x < 128 → row x = (s.1 x : Int)
def UN (row row0 : Nat → Int) (x y : Nat) : Prop := (row x = (y : Int) ∧ y < 128 ∧ row y = row0 y ∧ (∃ b : Nat, b < 128 ∧ row y = (b : Int)) ∧ row = row0) ∨ ∃ a b : Nat, a < 128 ∧ b < 128 ∧ row x = (a : Int) ∧ row y = (b : Int) ∧ a ≠ y ∧ up (up row a (x : Int)) b (y : Int) = row0
theorem up_id {α : Type} {F : Nat → α} {i : Nat} : up F i (F i) = F := by
  funext j
  unfold up
  split
  · next h => rw [h]
  · rfl
theorem S_joinS {Q : Int → MM → GM → am_H → Prop} {z1 z2 : Int} {N : Nat} {op : Nat → Prop} {s : JT} (x y : Nat) (hz1 : z1 = (x : Int)) (hz2 : z2 = (y : Int)) (hI : JI N op s.1 s.2.1) (hN : 2 * N ≤ 128) (hx : op x) (hy : op y) (hne : x ≠ y) (hM : MU (m 33) s) (hQ : ∀ row, MU row (jst s (x, y)) → UN row (m 33) x y → Q ((jst s (x, y)).2.2 - s.2.2) (up m 33 row) γ t) : TI E (k + 1) 67 [.ref 28, .int (iI z1), .int (iI z2)] m γ t Q := by
  obtain ⟨x1, x2, x3, x4⟩ := hI.2.1 x hx
  obtain ⟨y1, y2, y3, y4⟩ := hI.2.1 y hy
  have xa := (hI.2.1 _ x2).1
  have yb := (hI.2.1 _ y2).1
  have h1 := hM x (by omega)
  have h2 := hM y (by omega)
  refine S_join x y (s.1 x) (s.1 y) hz1 hz2 (by omega) (by omega) (by omega) (by omega) h1 h2 (fun c => ?_) (fun c => ?_)
  · have e : jst s (x, y) = (s.1, s.2.1, s.2.2 + 1) := by
      unfold jst
      exact if_pos c
    rw [e] at hQ
    have := hQ (m 33) hM (Or.inl ⟨by rw [h1, c], by omega, rfl, ⟨s.1 y, by omega, h2⟩, rfl⟩)
    rw [up_id] at this
    dsimp only at this
    rw [show s.2.2 + 1 - s.2.2 = 1 by omega] at this
    exact this
  · have e : jst s (x, y) = (muM s.1 x y, lbM s.2.1 x y, s.2.2) := by
      unfold jst
      exact if_neg c
    rw [e] at hQ
    have hab : s.1 x ≠ s.1 y := fun q => hne (by rw [← x4, q, y4])
    have hbx : s.1 y ≠ x := fun q => c (by rw [← q, y4])
    have := hQ (up (up (m 33) (s.1 x) (s.1 y : Int)) (s.1 y) (s.1 x : Int)) (fun z hz => ?_) (Or.inr ⟨s.1 x, s.1 y, by omega, by omega, ?_, ?_, c, ?_⟩)
    · dsimp only at this
      rw [show s.2.2 - s.2.2 = 0 by omega] at this
      exact this
    · show _ = ((muM s.1 x y z : Nat) : Int)
      unfold muM
      by_cases c1 : z = s.1 y
      · rw [c1, up_self, up_self]
      · rw [up_ne c1, up_ne c1]
        by_cases c2 : z = s.1 x
        · rw [c2, up_self, up_self]
        · rw [up_ne c2, up_ne c2]
          exact hM z hz
    · rw [up_ne hbx.symm, up_ne x3.symm, h1]
    · rw [up_ne y3.symm, up_ne (fun q => c q.symm), h2]
    · funext z
      by_cases c1 : z = s.1 y
      · rw [c1, up_self, hM _ (by omega), y4]
      · rw [up_ne c1]
        by_cases c2 : z = s.1 x
        · rw [c2, up_self, hM _ (by omega), x4]
        · rw [up_ne c2, up_ne c1, up_ne c2]
theorem S_partS {Q : MM → GM → am_H → Prop} {z1 z2 : Int} {row0 : Nat → Int} (x y : Nat) (hz1 : z1 = (x : Int)) (hz2 : z2 = (y : Int)) (hx : x < 128) (hy : y < 128) (hU : UN (m 33) row0 x y) (hQ : Q (up m 33 row0) γ t) : TV E (k + 1) 68 [.ref 28, .int (iI z1), .int (iI z2)] m γ t Q := by
  rcases hU with ⟨u1, u2, u3, ⟨b, u4, u5⟩, u6⟩ | ⟨a, b, u1, u2, u3, u4, u5, u6⟩
  · refine S_part x y y b hz1 hz2 hx hy hy u4 u1 u5 (fun _ => ?_) (fun c => absurd rfl c)
    rw [← u6, up_id] at hQ
    exact hQ
  · refine S_part x y a b hz1 hz2 hx hy u1 u2 u3 u4 (fun c => absurd c u5) (fun _ => ?_)
    rw [u6]
    exact hQ
theorem S_openingEnd {Q : Int → MM → GM → am_H → Prop} {z1 z2 : Int} (c s : Nat) (hz1 : z1 = (c : Int)) (hz2 : z2 = (s : Int)) (hc : c < 16) (hs : s < 4) (hQ : Q ((2 * (4 * c + s) : Nat) : Int) m γ t) : TI E k 63 [.int (iI z1), .int (iI z2)] m γ t Q := by
  subst hz1 hz2
  refine vc_X5_openingEnd (by omega) (by omega) ⟨by omega, ?_⟩
  rw [show (2 * (4 * (c : Int) + (s : Int))) = ((2 * (4 * c + s) : Nat) : Int) by omega]
  exact hQ
theorem S_closingEnd {Q : Int → MM → GM → am_H → Prop} {z1 z2 : Int} (c s : Nat) (hz1 : z1 = (c : Int)) (hz2 : z2 = (s : Int)) (hc : c < 16) (hs : s < 4) (hQ : Q (clE (4 * c + s) : Int) m γ t) : TI E k 64 [.int (iI z1), .int (iI z2)] m γ t Q := by
  subst hz1 hz2
  refine vc_X5_closingEnd (by omega) (by omega) ⟨by omega, by omega, by omega, ?_⟩
  rw [show (2 * (4 * (c : Int) + ((s : Int) + 3) % 4) + 1) = ((clE (4 * c + s) : Nat) : Int) by unfold clE; omega]
  exact hQ
theorem S_joinRim {Q : Int → MM → GM → am_H → Prop} {G : GV} (hG : vG G) (hγ : γ 29 = G) (hM : MU (m 33) js0) (hQ : ∀ row P s, MU row s → JS (nC G) (opD G.1 G.2.1 (fun e => e < gn G.1 G.2.1)) P s → (∀ set, ∀ p ∈ P, p.1 < 2 * nC G ∧ p.2 = gl (smo G set) p.1) → Q s.2.2 (up m 33 row) γ t) : TI E (k + 3) 65 [.ref 28] m γ t Q := by
  have hle := hG.1.le
  have hRC : G.1 * G.2.1 ≤ 4 * 4 := Nat.mul_le_mul hle.1 hle.2
  have hnC : nC G = 4 * (G.1 * G.2.1) := rfl
  refine vc_X5_joinRim ?_
  refine upN (n := G.1 * G.2.1) (P := fun c => ∀ row P s, MU row s → JS (nC G) (opR G.1 G.2.1 (4 * c)) P s → (∀ set, ∀ p ∈ P, p.1 < 2 * nC G ∧ p.2 = gl (smo G set) p.1) → (-1000 ≤ s.2.2 ∧ s.2.2 ≤ 4 * (c : Int)) → hd_X5_joinRim_4 E (k + 2) s.2.2 (c : Int) (up m 33 row) γ t Q) ?_ (fun c hc ih => ?_) 0 (Nat.zero_le _) (m 33) [] js0 hM JS.rimS (fun _ p hp => (nomatch hp)) ⟨by decide, by decide⟩ |> fun w => by rw [up_id] at w; exact w
  · intro row P s h1 h2 h3 h4
    refine vc_X5_joinRim_4 (by omega) (by omega) (S_gcells (gi rfl) (fun _ => ?_))
    rw [hγ]
    exact ⟨fun z => absurd z (by omega), fun _ => hQ row P s h1 (h2.rimE hG.1) h3⟩
  · intro row P s h1 h2 h3 h4
    refine vc_X5_joinRim_4 (by omega) (by omega) (S_gcells (gi rfl) (fun _ => ?_))
    rw [hγ]
    refine ⟨fun _ => ?_, fun z => absurd (by omega) z⟩
    refine upN (n := 4) (P := fun d => ∀ row P s, MU row s → JS (nC G) (opR G.1 G.2.1 (4 * c + d)) P s → (∀ set, ∀ p ∈ P, p.1 < 2 * nC G ∧ p.2 = gl (smo G set) p.1) → (-1000 ≤ s.2.2 ∧ s.2.2 ≤ 4 * (c : Int) + (d : Int)) → hd_X5_joinRim_17 E (k + 2) s.2.2 (c : Int) (d : Int) (up m 33 row) γ t Q) ?_ (fun d hd ih2 => ?_) 0 (Nat.zero_le _) row P s h1 h2 h3 (by omega)
    · intro row P s h1 h2 h3 h4
      exact vc_X5_joinRim_17 (by omega) (by omega) (by omega) ⟨fun z => absurd z (by omega), fun _ => ih row P s h1 h2 h3 (by omega)⟩
    · intro row P s h1 h2 h3 h4
      refine vc_X5_joinRim_17 (by omega) (by omega) (by omega) ⟨fun _ => S_edgeOnSide c d (gi rfl) rfl rfl (by rw [hγ]; exact hc) (by omega) (fun _ => ?_), fun z => absurd (by omega) z⟩
      rw [hγ]
      have q1 : (4 * c + d) / 4 = c := by omega
      have q2 : (4 * c + d) % 4 = d := by omega
      refine ⟨fun he => ?_, fun he => ih2 row P s h1 (JS.rim0 (q := 4 * c + d) hG.1 (by rw [q1, q2]; exact he) h2) h3 (by omega)⟩
      have hq : 4 * c + d < 4 * (G.1 * G.2.1) := by omega
      have he' : ges G.1 G.2.1 ((4 * c + d) / 4) ((4 * c + d) % 4) = -1 := by rw [q1, q2]; exact he
      obtain ⟨⟨r1, r2, r3⟩, -⟩ := rm_ok hG.1 hq he'
      obtain ⟨p1, p2⟩ := ps_ok hG.1 hq
      refine S_openingEnd c d rfl rfl (by omega) hd (S_closingEnd c d rfl rfl (by omega) hd ?_)
      refine S_joinS (s := s) (2 * (4 * c + d)) (clE (4 * c + d)) rfl rfl h2.1 (by omega) ⟨r1, Or.inr (by omega)⟩ ⟨r2, Or.inr (by omega)⟩ r3 (by rw [up_self]; exact h1) (fun row2 g1 _ => ?_)
      rw [up_up, show s.2.2 + ((jst s (2 * (4 * c + d), clE (4 * c + d))).2.2 - s.2.2) = (jst s (2 * (4 * c + d), clE (4 * c + d))).2.2 by omega]
      refine ih2 row2 ((2 * (4 * c + d), clE (4 * c + d)) :: P) _ g1 (h2.rim hG.1 hq he') (fun set p hp => ?_) ?_
      · rcases List.mem_cons.mp hp with c1 | c1
        · rw [c1]
          exact rim_gl (G := smo G set) (vG_smo hG) hq he'
        · exact h3 set p c1
      · have : (jst s (2 * (4 * c + d), clE (4 * c + d))).2.2 = s.2.2 + 1 ∨ (jst s (2 * (4 * c + d), clE (4 * c + d))).2.2 = s.2.2 := by
          unfold jst
          split
          · exact Or.inl rfl
          · exact Or.inr rfl
        omega
end CL5
