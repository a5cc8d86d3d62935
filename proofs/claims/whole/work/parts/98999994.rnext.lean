/-! ===== tokens: the reference ===== -/
def TPm (m : MM) (tp : List Int) : Prop := m 158 32 = (tp.length : Int) ∧ tp.length ≤ 400 ∧ ∀ i, i < tp.length → m 182 i = tp.getD i 0 ∧ 0 ≤ tp.getD i 0 ∧ tp.getD i 0 < 256
theorem TPm.up {m : MM} {tp : List Int} {F : Nat → Int} (h : TPm m tp) (hF : F 32 = m 158 32) : TPm (up m 158 F) tp := by
  refine ⟨by rw [up_self, hF]; exact h.1, h.2.1, fun i hi => ?_⟩
  rw [up_ne (by decide)]
  exact h.2.2 i hi
def f58 (F G : Nat → Int) : Prop := ∀ j, ¬ (35 ≤ j ∧ j ≤ 38) → G j = F j
/-- the token that stands at p -/
def RTk (m : MM) (tp : List Int) (p : Nat) : Prop := TPm m tp ∧ p ≤ tp.length ∧ m 158 36 = (kb tp p : Int) ∧ m 158 37 = (kst tp p : Int) ∧ m 158 35 = (kq tp p : Int) ∧ (kst tp p = 2 → m 158 38 = kv tp p) ∧ m 158 39 = 0
section RN
variable {E : am_E} {k : Nat} {m : MM} {γ : GM} {t : am_H} {tp : List Int}
theorem S_isAt {Q : Int → MM → GM → am_H → Prop} {lo hi : Int} (p : Nat) (h : TPm m tp) (hp : p ≤ tp.length) (h5 : m 158 35 = (p : Int)) (hlo : 0 ≤ lo ∧ lo ≤ 1000) (hhi : 0 ≤ hi ∧ hi ≤ 1000) (q1 : p < tp.length → lo ≤ tp.getD p 0 ∧ tp.getD p 0 ≤ hi → Q 1 m γ t) (q0 : ¬ (p < tp.length ∧ lo ≤ tp.getD p 0 ∧ tp.getD p 0 ≤ hi) → Q 0 m γ t) : TI E (k + 1) 222 [.ref 158, .int (iI lo), .int (iI hi)] m γ t Q := by
  have h4 := h.2.1
  refine vc_X9_isAt (by omega) (by omega) ?_
  show _ ∧ _
  rw [h5, h.1, Int.toNat_natCast]
  refine ⟨fun c => ⟨by omega, ?_⟩, fun c => q0 (fun z => c (by omega))⟩
  have hz := h.2.2 p (by omega)
  rw [hz.1]
  exact S_in (by omega) (by omega) (by omega) (fun c2 => b1 (q1 (by omega) c2)) (fun c2 => b0 (q0 (fun z => c2 z.2)))
theorem S_next {Q : MM → GM → am_H → Prop} (p : Nat) (h : TPm m tp) (hp : p ≤ tp.length) (h5 : m 158 35 = (p : Int)) (h9 : m 158 39 = 0) (hQ : ∀ F, f58 (m 158) F → RTk (up m 158 F) tp p → Q (up m 158 F) γ t) : TV E (k + 2) 223 [.ref 158] m γ t Q := by
  have h4 := h.2.1
  have hkb := sk_le (P := wsB) hp
  have hkb : p ≤ kb tp p ∧ kb tp p ≤ tp.length := hkb
  have done : ∀ F : Nat → Int, f58 (m 158) F → F 36 = (kb tp p : Int) → F 37 = (kst tp p : Int) → F 35 = (kq tp p : Int) → (kst tp p = 2 → F 38 = kv tp p) → Q (up m 158 F) γ t := fun F f1 f2 f3 f4 f5 => hQ F f1 ⟨h.up (f1 32 (by decide)), hp, by rw [up_self]; exact f2, by rw [up_self]; exact f3, by rw [up_self]; exact f4, fun q => by rw [up_self]; exact f5 q, by rw [up_self, f1 39 (by decide)]; exact h9⟩
  -- words
  have word : ∀ (d i : Nat), i + d = tp.length → ∀ F : Nat → Int, f58 (m 158) F → F 36 = (kb tp p : Int) → F 37 = 1 → F 35 = (i : Int) → kst tp p = 1 → sk ltB tp i = kq tp p → hd_X9_next_83 E (k + 1) (up m 158 F) γ t Q := by
    intro d
    induction d with
    | zero =>
      intro i hi F f1 f2 f3 f4 f5 f6
      have hT : TPm (up m 158 F) tp := h.up (f1 32 (by decide))
      rw [sk_f (fun q => by omega)] at f6
      exact vc_X9_next_83 (S_isAt i hT (by omega) (by rw [up_self]; exact f4) (by omega) (by omega) (fun c => absurd c (by omega)) (fun _ => b0 (done F f1 f2 (by rw [f3, f5]; rfl) (by rw [f4, f6]) (fun q => absurd q (by omega)))))
    | succ d ih =>
      intro i hi F f1 f2 f3 f4 f5 f6
      have hT : TPm (up m 158 F) tp := h.up (f1 32 (by decide))
      refine vc_X9_next_83 (S_isAt i hT (by omega) (by rw [up_self]; exact f4) (by omega) (by omega) (fun c c2 => b1 ?_) (fun c => b0 ?_))
      · rw [up_self, f4, up_up]
        have hl : ltB (tp.getD i 0) = true := decide_eq_true c2
        exact ⟨by omega, ih (i + 1) (by omega) _ (fun j hj => by rw [up_ne (by omega)]; exact f1 j hj) (by rw [up_ne (by decide)]; exact f2) (by rw [up_ne (by decide)]; exact f3) (by rw [up_self]; omega) f5 (by rw [← sk_t c hl]; exact f6)⟩
      · rw [sk_f (fun q => c ⟨q.1, of_decide_eq_true q.2⟩)] at f6
        exact done F f1 f2 (by rw [f3, f5]; rfl) (by rw [f4, f6]) (fun q => absurd q (by omega))
  -- numbers
  have numb : ∀ (d i : Nat), i + d = tp.length → ∀ (F : Nat → Int) (v : Int), f58 (m 158) F → F 36 = (kb tp p : Int) → F 37 = 2 → F 35 = (i : Int) → F 38 = v → 0 ≤ v ∧ v ≤ 1000 → kst tp p = 2 → sk dgB tp i = kq tp p → nv tp i v = kv tp p → hd_X9_next_123 E (k + 1) (up m 158 F) γ t Q := by
    intro d
    induction d with
    | zero =>
      intro i hi F v f1 f2 f3 f4 f8 hv f5 f6 f7
      have hT : TPm (up m 158 F) tp := h.up (f1 32 (by decide))
      rw [sk_f (fun q => by omega)] at f6
      rw [nv_f (fun q => by omega)] at f7
      exact vc_X9_next_123 (S_isAt i hT (by omega) (by rw [up_self]; exact f4) (by omega) (by omega) (fun c => absurd c (by omega)) (fun _ => b0 (done F f1 f2 (by rw [f3, f5]; rfl) (by rw [f4, f6]) (fun _ => by rw [f8, f7]))))
    | succ d ih =>
      intro i hi F v f1 f2 f3 f4 f8 hv f5 f6 f7
      have hT : TPm (up m 158 F) tp := h.up (f1 32 (by decide))
      refine vc_X9_next_123 (S_isAt i hT (by omega) (by rw [up_self]; exact f4) (by omega) (by omega) (fun c c2 => b1 ?_) (fun c => b0 ?_))
      · have hl : dgB (tp.getD i 0) = true := decide_eq_true c2
        rw [up_self, f4, f8, up_ne (show 182 ≠ 158 by decide), Int.toNat_natCast, (h.2.2 i c).1]
        refine ⟨by omega, S_minT (by omega) (by omega) ?_⟩
        rw [up_self, f4, up_up, up_up]
        refine ⟨by omega, ih (i + 1) (by omega) _ (mn1 (10 * v + tp.getD i 0 - 48)) (fun j hj => by rw [up_ne (by omega), up_ne (by omega)]; exact f1 j hj) (by rw [up_ne (by decide), up_ne (by decide)]; exact f2) (by rw [up_ne (by decide), up_ne (by decide)]; exact f3) (by rw [up_self]; omega) (by rw [up_ne (by decide), up_self]; rfl) (by unfold mn1; split <;> omega) f5 (by rw [← sk_t c hl]; exact f6) (by rw [← nv_t c hl]; exact f7)⟩
      · rw [sk_f (fun q => c ⟨q.1, of_decide_eq_true q.2⟩)] at f6
        rw [nv_f (fun q => c ⟨q.1, of_decide_eq_true q.2⟩)] at f7
        exact done F f1 f2 (by rw [f3, f5]; rfl) (by rw [f4, f6]) (fun _ => by rw [f8, f7])
  -- what stands at the first place that is no blank
  have body : ∀ F : Nat → Int, f58 (m 158) F → F 35 = (kb tp p : Int) → ((((up m 158 F) 158 35 = (up m 158 F) 158 32) → Q (up (up (up (up m 158 F) 158 (up ((up m 158 F) 158) 36 ((up m 158 F) 158 35))) 158 (up (up ((up m 158 F) 158) 36 ((up m 158 F) 158 35)) 38 0)) 158 (up (up (up ((up m 158 F) 158) 36 ((up m 158 F) 158 35)) 38 0) 37 0)) γ t) ∧ (¬ ((up m 158 F) 158 35 = (up m 158 F) 158 32) → TI E (k + 1) 222 [.ref 158, .int (iI 97), .int (iI 122)] (up (up (up m 158 F) 158 (up ((up m 158 F) 158) 36 ((up m 158 F) 158 35))) 158 (up (up ((up m 158 F) 158) 36 ((up m 158 F) 158 35)) 38 0)) γ t (fun v13 m13 γ13 t13 => ((v13 = 0) → TI E (k + 1) 222 [.ref 158, .int (iI 48), .int (iI 57)] m13 γ13 t13 (fun v15 m15 γ15 t15 => ((v15 = 0) → (rJ ((m15 158 35) + 1) ∧ Q (up (up m15 158 (up (m15 158) 37 3)) 158 (up (up (m15 158) 37 3) 35 ((m15 158 35) + 1))) γ15 t15)) ∧ (¬ (v15 = 0) → hd_X9_next_123 E (k + 1) (up m15 158 (up (m15 158) 37 2)) γ15 t15 Q))) ∧ (¬ (v13 = 0) → hd_X9_next_83 E (k + 1) (up m13 158 (up (m13 158) 37 1)) γ13 t13 Q)))) := by
    intro F f1 f2
    rw [up_self, f2, f1 32 (by decide), h.1, up_up, up_up, up_up]
    have g1 : f58 (m 158) (up (up F 36 (kb tp p : Int)) 38 0) := fun j hj => by rw [up_ne (by omega), up_ne (by omega)]; exact f1 j hj
    refine ⟨fun c => ?_, fun c => ?_⟩
    · have hk : kst tp p = 0 := by unfold kst; rw [if_neg (by omega)]
      have hq : kq tp p = kb tp p := by unfold kq; rw [if_neg (by omega)]
      exact done _ (fun j hj => by rw [up_ne (by omega)]; exact g1 j hj) (by rw [up_ne (by decide), up_ne (by decide), up_self]) (by rw [up_self, hk]; rfl) (by rw [up_ne (by decide), up_ne (by decide), up_ne (by decide), hq]; exact f2) (fun q => absurd q (by omega))
    · rw [show up (up (up m 158 F) 158 (up F 36 (kb tp p : Int))) 158 (up (up F 36 (kb tp p : Int)) 38 0) = up m 158 (up (up F 36 (kb tp p : Int)) 38 0) by rw [up_up, up_up]]
      have hbl : kb tp p < tp.length := by omega
      have hT2 : TPm (up m 158 (up (up F 36 (kb tp p : Int)) 38 0)) tp := h.up (g1 32 (by decide))
      have h35 : up m 158 (up (up F 36 (kb tp p : Int)) 38 0) 158 35 = (kb tp p : Int) := by rw [up_self, up_ne (by decide), up_ne (by decide)]; exact f2
      refine S_isAt (kb tp p) hT2 (by omega) h35 (by omega) (by omega) (fun c1 c2 => b1 ?_) (fun c1 => b0 ?_)
      · have hl : ltB (tp.getD (kb tp p) 0) = true := decide_eq_true c2
        have hk : kst tp p = 1 := by unfold kst; rw [if_pos hbl, if_pos hl]
        have hq : kq tp p = sk ltB tp (kb tp p) := by unfold kq; rw [if_pos hbl, if_pos hl]
        rw [up_self, up_up]
        exact word (tp.length - kb tp p) (kb tp p) (by omega) (up (up (up F 36 (kb tp p : Int)) 38 0) 37 1) (fun j hj => by rw [up_ne (by omega)]; exact g1 j hj) (by rw [up_ne (by decide), up_ne (by decide), up_self]) (by rw [up_self]) (by rw [up_ne (by decide), up_ne (by decide), up_ne (by decide)]; exact f2) hk hq.symm
      · have hnl : ¬ ltB (tp.getD (kb tp p) 0) = true := fun q => c1 ⟨hbl, of_decide_eq_true q⟩
        refine S_isAt (kb tp p) hT2 (by omega) h35 (by omega) (by omega) (fun c3 c4 => b1 ?_) (fun c3 => b0 ?_)
        · have hl : dgB (tp.getD (kb tp p) 0) = true := decide_eq_true c4
          have hk : kst tp p = 2 := by unfold kst; rw [if_pos hbl, if_neg hnl, if_pos hl]
          have hq : kq tp p = sk dgB tp (kb tp p) := by unfold kq; rw [if_pos hbl, if_neg hnl, if_pos hl]
          have hv : kv tp p = nv tp (kb tp p) 0 := by unfold kv; rw [if_neg (by omega), if_pos hk]
          rw [up_self, up_up]
          exact numb (tp.length - kb tp p) (kb tp p) (by omega) (up (up (up F 36 (kb tp p : Int)) 38 0) 37 2) 0 (fun j hj => by rw [up_ne (by omega)]; exact g1 j hj) (by rw [up_ne (by decide), up_ne (by decide), up_self]) (by rw [up_self]) (by rw [up_ne (by decide), up_ne (by decide), up_ne (by decide)]; exact f2) (by rw [up_ne (by decide), up_self]) (by omega) hk hq.symm hv.symm
        · have hnd : ¬ dgB (tp.getD (kb tp p) 0) = true := fun q => c3 ⟨hbl, of_decide_eq_true q⟩
          have hk : kst tp p = 3 := by unfold kst; rw [if_pos hbl, if_neg hnl, if_neg hnd]
          have hq : kq tp p = kb tp p + 1 := by unfold kq; rw [if_pos hbl, if_neg hnl, if_neg hnd]
          rw [h35, up_self, up_up, up_up]
          refine ⟨by omega, done _ (fun j hj => by rw [up_ne (by omega), up_ne (by omega)]; exact g1 j hj) (by rw [up_ne (by decide), up_ne (by decide), up_ne (by decide), up_self]) (by rw [up_ne (by decide), up_self, hk]; rfl) (by rw [up_self, hq]; omega) (fun q => absurd q (by omega))⟩
  -- blanks
  have step : ∀ (i : Nat) (F : Nat → Int), i ≤ tp.length → f58 (m 158) F → F 35 = (i : Int) → sk wsB tp i = kb tp p → (i < tp.length → wsB (tp.getD i 0) = true → hd_X9_next_0 E (k + 1) (up m 158 (up F 35 ((i : Int) + 1))) γ t Q) → W_X9_next_0 E (k + 1) (up m 158 F) γ t Q := by
    intro i F hi f1 f2 f3 nxt
    have hT : TPm (up m 158 F) tp := h.up (f1 32 (by decide))
    have h35 : up m 158 F 158 35 = (i : Int) := by rw [up_self]; exact f2
    have go : i < tp.length → wsB (tp.getD i 0) = true → rJ ((up m 158 F) 158 35 + 1) ∧ hd_X9_next_0 E (k + 1) (up (up m 158 F) 158 (up ((up m 158 F) 158) 35 ((up m 158 F) 158 35 + 1))) γ t Q := fun c1 c2 => by
      rw [h35, up_self, up_up]
      exact ⟨by omega, nxt c1 c2⟩
    refine S_isAt i hT hi h35 (by omega) (by omega) (fun c1 c2 => b1 (go c1 (decide_eq_true (Or.inl (by omega))))) (fun c1 => b0 ?_)
    refine S_isAt i hT hi h35 (by omega) (by omega) (fun c3 c4 => b1 (go c3 (decide_eq_true (Or.inr (by omega))))) (fun c3 => b0 ?_)
    rw [sk_f (fun q => by
      rcases (of_decide_eq_true q.2 : tp.getD i 0 = 32 ∨ tp.getD i 0 = 10) with w | w
      · exact c1 ⟨q.1, by omega, by omega⟩
      · exact c3 ⟨q.1, by omega, by omega⟩)] at f3
    exact body F f1 (by rw [f2, f3])
  have loop : ∀ (d i : Nat), i + d = tp.length → ∀ F : Nat → Int, f58 (m 158) F → F 35 = (i : Int) → sk wsB tp i = kb tp p → hd_X9_next_0 E (k + 1) (up m 158 F) γ t Q := by
    intro d
    induction d with
    | zero =>
      intro i hi F f1 f2 f3
      exact vc_X9_next_0 (step i F (by omega) f1 f2 f3 (fun c => absurd c (by omega)))
    | succ d ih =>
      intro i hi F f1 f2 f3
      exact vc_X9_next_0 (step i F (by omega) f1 f2 f3 (fun c1 c2 => ih (i + 1) (by omega) _ (fun j hj => by rw [up_ne (by omega)]; exact f1 j hj) (by rw [up_self]; omega) (by rw [← sk_t c1 c2]; exact f3)))
  have := step p (m 158) hp (fun _ _ => rfl) h5 rfl (fun c1 c2 => loop (tp.length - (p + 1)) (p + 1) (by omega) _ (fun j hj => up_ne (by omega)) (by rw [up_self]; omega) (by rw [← sk_t c1 c2]; rfl))
  rw [up_id] at this
  exact vc_X9_next this
theorem S_passR {Q : MM → GM → am_H → Prop} (p : Nat) (h : RTk m tp p) (hQ : ∀ F, f58 (m 158) F → RTk (up m 158 F) tp (kq tp p) → Q (up m 158 F) γ t) : TV E (k + 3) 225 [.ref 158] m γ t Q := by
  obtain ⟨h1, h2, h3, h4, h5, h6, h7⟩ := h
  refine vc_X9_passes_ ⟨fun _ => S_next (kq tp p) h1 (kq_gt h2).2.2.1 h5 h7 hQ, fun c => absurd h7 c⟩
theorem S_passB {Q : MM → GM → am_H → Prop} (h : m 158 39 ≠ 0) (hQ : Q m γ t) : TV E (k + 1) 225 [.ref 158] m γ t Q := vc_X9_passes_ ⟨fun c => absurd c h, fun _ => hQ⟩
theorem S_isWord {Q : Int → MM → GM → am_H → Prop} (n p : Nat) (hE : EV E) (hn : n < 27) (h : RTk m tp p) (q1 : kst tp p = 1 ∧ spW tp (kb tp p) (kq tp p) n → Q 1 m γ t) (q0 : ¬ (kst tp p = 1 ∧ spW tp (kb tp p) (kq tp p) n) → Q 0 m γ t) : TI E (k + 4) 226 [.ref 158, .ref (1000000 + 2 * n)] m γ t Q := by
  obtain ⟨h1, h2, h3, h4, h5, h6, h7⟩ := h
  obtain ⟨g1, g2, g3, g4, g5⟩ := kq_gt h2
  have h400 := h1.2.1
  have hl6 := tx_len6 hn
  have fail : ∀ j, j ≤ (tx n).length → ¬ (kst tp p = 1 ∧ spW tp (kb tp p) (kq tp p) n) → hd_X9_isWord_39 E (k + 3) (1000000 + 2 * n) 0 (j : Int) m γ t Q := fun j hj hno => vc_X9_isWord_39 ⟨n, hn, rfl⟩ (by omega) (by omega) (S_length hn ⟨fun _ => b0 ⟨Or.inl rfl, q0 hno⟩, fun _ => ⟨Or.inl rfl, q0 hno⟩⟩)
  refine vc_X9_isWord ⟨n, hn, rfl⟩ ?_
  show _ ∧ _
  rw [h7, h4, h5, h3]
  refine ⟨fun _ => ⟨fun c => S_length hn ⟨by omega, fun c2 => ?_, fun c2 => fail 0 (Nat.zero_le _) (fun z => c2 (by have := z.2.1; omega))⟩, fun c => fail 0 (Nat.zero_le _) (fun z => c (by omega))⟩, fun c => absurd rfl c⟩
  have hlen : kq tp p - kb tp p = (tx n).length := by omega
  refine upN (n := (tx n).length) (P := fun j => (∀ i, i < j → tp.getD (kb tp p + i) 0 = (tx n).getD i 0) → hd_X9_isWord_39 E (k + 3) (1000000 + 2 * n) 1 (j : Int) m γ t Q) (fun hj => ?_) (fun j hj ih => fun hjj => ?_) 0 (Nat.zero_le _) (fun i hi => absurd hi (Nat.not_lt_zero i))
  · exact vc_X9_isWord_39 ⟨n, hn, rfl⟩ (by omega) (by omega) (S_length hn ⟨fun z => absurd z (by omega), fun _ => ⟨Or.inr rfl, q1 ⟨by omega, hlen, hj⟩⟩⟩)
  · refine vc_X9_isWord_39 ⟨n, hn, rfl⟩ (by omega) (by omega) (S_length hn ⟨fun _ => b1 ?_, fun z => absurd (by omega) z⟩)
    rw [h3, show ((kb tp p : Int) + (j : Int)).toNat = kb tp p + j by omega, (h1.2.2 (kb tp p + j) (by omega)).1]
    refine ⟨by omega, S_charAt hE hn hj (fun _ => ⟨fun e => ih (fun i hi => ?_), fun e => fail (j + 1) (by omega) (fun z => e (z.2.2 j hj))⟩)⟩
    by_cases d : i = j
    · rw [d]; exact e
    · exact hjj i (by omega)
theorem S_isWordB {Q : Int → MM → GM → am_H → Prop} (n : Nat) (hn : n < 27) (h : m 158 39 ≠ 0) (hQ : Q 0 m γ t) : TI E (k + 4) 226 [.ref 158, .ref (1000000 + 2 * n)] m γ t Q := by
  refine vc_X9_isWord ⟨n, hn, rfl⟩ ⟨fun c => absurd c h, fun _ => ?_⟩
  exact vc_X9_isWord_39 ⟨n, hn, rfl⟩ (by omega) (by omega) (S_length hn ⟨fun _ => b0 ⟨Or.inl rfl, hQ⟩, fun _ => ⟨Or.inl rfl, hQ⟩⟩)
theorem kv_sign {p : Nat} (h : TPm m tp) (hk : kst tp p = 3) (hb : kb tp p < tp.length) {c : Int} (hc : 0 ≤ c ∧ c < 128) : kv tp p = c ↔ tp.getD (kb tp p) 0 = c := by
  have hz := (h.2.2 (kb tp p) hb).2
  have hbm := sbm hz
  unfold kv
  rw [if_neg (by omega), if_neg (by omega), hbm]
  split <;> omega
theorem S_isSignR {Q : Int → MM → GM → am_H → Prop} {c : Int} (p : Nat) (h : RTk m tp p) (hc : 0 ≤ c ∧ c < 128) (q1 : kst tp p = 3 ∧ kv tp p = c → Q 1 m γ t) (q0 : ¬ (kst tp p = 3 ∧ kv tp p = c) → Q 0 m γ t) : TI E k 228 [.ref 158, .int (iI c)] m γ t Q := by
  obtain ⟨h1, h2, h3, h4, h5, h6, h7⟩ := h
  obtain ⟨g1, g2, g3, g4, g5⟩ := kq_gt h2
  have h400 := h1.2.1
  refine vc_X9_isSign (by omega) ?_
  show _ ∧ _
  rw [h7, h4, h3, Int.toNat_natCast]
  refine ⟨fun _ => ⟨fun c1 => ?_, fun c1 => q0 (fun z => c1 (by omega))⟩, fun z => absurd rfl z⟩
  have hk : kst tp p = 3 := by omega
  have hbl := (g5 (by omega)).2
  have iff := kv_sign h1 hk hbl hc
  rw [(h1.2.2 (kb tp p) hbl).1]
  exact ⟨by omega, fun c2 => q1 ⟨hk, iff.mpr c2⟩, fun c2 => q0 (fun z => c2 (iff.mp z.2))⟩
theorem S_isSignB {Q : Int → MM → GM → am_H → Prop} {c : Int} (hc : rJ c) (h : m 158 39 ≠ 0) (hQ : Q 0 m γ t) : TI E k 228 [.ref 158, .int (iI c)] m γ t Q := vc_X9_isSign hc ⟨fun z => absurd z h, fun _ => hQ⟩
theorem S_faultsR {Q : MM → GM → am_H → Prop} {x : Int} (p : Nat) (h : RTk m tp p) (hx : rJ x) (hQ : ∀ F, (∀ j, j ≠ 33 → j ≠ 34 → j ≠ 39 → F j = m 158 j) → F 33 = x → F 34 = (kb tp p : Int) → F 39 = 1 → Q (up m 158 F) γ t) : TV E k 224 [.ref 158, .int (iI x)] m γ t Q := by
  obtain ⟨h1, h2, h3, h4, h5, h6, h7⟩ := h
  refine vc_X9_faults hx ⟨fun _ => ?_, fun z => absurd h7 z⟩
  rw [up_up, up_up, h3]
  exact hQ _ (fun j a b c => by rw [up_ne b, up_ne a, up_ne c]) (by rw [up_ne (by decide), up_self]) (by rw [up_self]) (by rw [up_ne (by decide), up_ne (by decide), up_self])
theorem S_faultsB {Q : MM → GM → am_H → Prop} {x : Int} (hx : rJ x) (h : m 158 39 ≠ 0) (hQ : Q m γ t) : TV E k 224 [.ref 158, .int (iI x)] m γ t Q := vc_X9_faults hx ⟨fun z => absurd z h, fun _ => hQ⟩
end RN
