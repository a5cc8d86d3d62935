theorem ad_r {a b c : Int} (h : b = c) : a + b = a + c := h ▸ rfl
/-- the bracket, way by way -/
def brk (G : GV) (i : Nat) (d : Int) : Int := sumN (fun set => cfA (lps G set - 1) (d - (2 * rai G set - nX G))) i
theorem brk_R {G : GV} (hG : vG G) (h0 : 0 < G.1) (h12 : nX G ≤ 12) {j : Nat} (hj : j < 241) : ∀ i, bkR G i j 64 = brk G i ((j : Int) - 120)
  | 0 => by
    show bkR G 0 j 64 = 0
    unfold bkR
    rw [sumN_congr (g := fun _ => 0) (fun n _ => ?_), sumN_zero]
    show adS (tl G 0 (n + 1)) (plT n) j 25 = 0
    unfold adS
    rw [sumN_congr (g := fun _ => 0) (fun q _ => ?_), sumN_zero]
    show 0 * _ = (0 : Int)
    rw [Int.zero_mul]
  | i + 1 => by
    have ih := brk_R hG h0 h12 hj i
    have r1 := rai_rg (G := G) (set := i)
    have l1 := lps16 hG i
    have l2 := lps1 hG h0 i
    obtain ⟨q0, hq0⟩ : ∃ q0 : Nat, 2 * rai G i - nX G = (q0 : Int) - 12 := ⟨(2 * rai G i - nX G + 12).toNat, by omega⟩
    have step : ∀ n, n < 64 → adS (tl G (i + 1) (n + 1)) (plT n) j 25 = adS (tl G i (n + 1)) (plT n) j 25 + (if n = lps G i - 1 then exF (plT n) ((j : Int) - ((q0 : Int) - 12)) else 0) := by
      intro n hn
      unfold adS
      have e1 : sumN (adT (tl G (i + 1) (n + 1)) (plT n) j) 25 = sumN (fun q => adT (tl G i (n + 1)) (plT n) j q + (if n = lps G i - 1 ∧ q = q0 then exF (plT n) ((j : Int) - ((q0 : Int) - 12)) else 0)) 25 := by
        refine sumN_congr (fun q hq => ?_)
        have hst : tl G (i + 1) (n + 1) q = tl G i (n + 1) q + (if lps G i = n + 1 ∧ 2 * rai G i - nX G = (q : Int) - 12 then 1 else 0) := rfl
        unfold adT
        rw [hst, Int.add_mul]
        refine ad_r ?_
        by_cases c : n = lps G i - 1 ∧ q = q0
        · rw [if_pos c, if_pos (by omega), c.2, Int.one_mul]
        · rw [if_neg c, if_neg (by omega), Int.zero_mul]
      rw [e1, sumN_add]
      refine ad_r ?_
      by_cases c : n = lps G i - 1
      · rw [if_pos c, sumN_one (i := q0) (fun q hq => if_neg (fun z => hq z.2)), if_pos (by omega), if_pos ⟨c, rfl⟩]
      · rw [if_neg c, sumN_congr (g := fun _ => 0) (fun q _ => if_neg (fun z => c z.1)), sumN_zero]
    have e2 : bkR G (i + 1) j 64 = bkR G i j 64 + exF (plT (lps G i - 1)) ((j : Int) - ((q0 : Int) - 12)) := by
      unfold bkR
      rw [sumN_congr step, sumN_add]
      refine ad_r ?_
      rw [sumN_one (i := lps G i - 1) (fun n hn => if_neg hn), if_pos (by omega), if_pos rfl]
    rw [e2, ih]
    show brk G i ((j : Int) - 120) + _ = brk G i ((j : Int) - 120) + cfA (lps G i - 1) ((j : Int) - 120 - (2 * rai G i - nX G))
    refine ad_r ?_
    rw [hq0]
    unfold exF
    by_cases c : 0 ≤ (j : Int) - ((q0 : Int) - 12) ∧ (j : Int) - ((q0 : Int) - 12) ≤ 240
    · rw [if_pos c, plT_cfA _ (by omega) _ (by omega), show ((((j : Int) - ((q0 : Int) - 12)).toNat : Nat) : Int) - 120 = (j : Int) - 120 - ((q0 : Int) - 12) by omega]
    · rw [if_neg c, cfA_far (by omega)]
def trI (G : GV) (i : Nat) (d : Int) : Int := sumN (fun r => sumN (fun n => sumN (fun set => if rai G set = (r : Int) ∧ lps G set = n + 1 then 1 else 0) i * cfA n (d - (2 * (r : Int) - nX G))) 16) 13
theorem brk_C {G : GV} (hG : vG G) (h0 : 0 < G.1) (h12 : nX G ≤ 12) (d : Int) : ∀ i, trI G i d = brk G i d
  | 0 => by
    show trI G 0 d = 0
    unfold trI
    rw [sumN_congr (g := fun _ => 0) (fun r _ => ?_), sumN_zero]
    rw [sumN_congr (g := fun _ => 0) (fun n _ => ?_), sumN_zero]
    show 0 * _ = (0 : Int)
    rw [Int.zero_mul]
  | i + 1 => by
    have ih := brk_C hG h0 h12 d i
    have r1 := rai_rg (G := G) (set := i)
    have l1 := lps16 hG i
    have l2 := lps1 hG h0 i
    obtain ⟨r0, hr0⟩ : ∃ r0 : Nat, rai G i = (r0 : Int) := ⟨(rai G i).toNat, by omega⟩
    have e2 : trI G (i + 1) d = trI G i d + cfA (lps G i - 1) (d - (2 * (r0 : Int) - nX G)) := by
      unfold trI
      have step : ∀ r : Nat, r < 13 → sumN (fun n => sumN (fun set => if rai G set = (r : Int) ∧ lps G set = n + 1 then (1 : Int) else 0) (i + 1) * cfA n (d - (2 * (r : Int) - nX G))) 16 = sumN (fun n => sumN (fun set => if rai G set = (r : Int) ∧ lps G set = n + 1 then (1 : Int) else 0) i * cfA n (d - (2 * (r : Int) - nX G))) 16 + (if r = r0 then cfA (lps G i - 1) (d - (2 * (r0 : Int) - nX G)) else 0) := by
        intro r hr
        have e1 : sumN (fun n => sumN (fun set => if rai G set = (r : Int) ∧ lps G set = n + 1 then (1 : Int) else 0) (i + 1) * cfA n (d - (2 * (r : Int) - nX G))) 16 = sumN (fun n => sumN (fun set => if rai G set = (r : Int) ∧ lps G set = n + 1 then (1 : Int) else 0) i * cfA n (d - (2 * (r : Int) - nX G)) + (if r = r0 ∧ n = lps G i - 1 then cfA n (d - (2 * (r0 : Int) - nX G)) else 0)) 16 := by
          refine sumN_congr (fun n hn => ?_)
          show (sumN (fun set => if rai G set = (r : Int) ∧ lps G set = n + 1 then (1 : Int) else 0) i + (if rai G i = (r : Int) ∧ lps G i = n + 1 then 1 else 0)) * _ = _
          rw [Int.add_mul]
          refine ad_r ?_
          by_cases c : r = r0 ∧ n = lps G i - 1
          · rw [if_pos c, if_pos (by omega), Int.one_mul, c.1]
          · rw [if_neg c, if_neg (by omega), Int.zero_mul]
        rw [e1, sumN_add]
        refine ad_r ?_
        by_cases c : r = r0
        · rw [if_pos c, sumN_one (i := lps G i - 1) (fun n hn => if_neg (fun z => hn z.2)), if_pos (by omega), if_pos ⟨c, rfl⟩]
        · rw [if_neg c, sumN_congr (g := fun _ => 0) (fun n _ => if_neg (fun z => c z.1)), sumN_zero]
      rw [sumN_congr step, sumN_add]
      refine ad_r ?_
      rw [sumN_one (i := r0) (fun r hr => if_neg hr), if_pos (by omega), if_pos rfl]
    rw [e2, ih]
    show _ = brk G i d + cfA (lps G i - 1) (d - (2 * rai G i - nX G))
    rw [hr0]
theorem trm_brk {G : GV} (hG : vG G) (h0 : 0 < G.1) (h12 : nX G ≤ 12) (d : Int) : trm G d = brk G (2 ^ (nX G).toNat) d := brk_C hG h0 h12 d _
theorem brk_far {G : GV} (hG : vG G) (h12 : nX G ≤ 12) {d : Int} (h : d < -60 ∨ 60 < d) : ∀ i, brk G i d = 0
  | 0 => rfl
  | i + 1 => by
    have r1 := rai_rg (G := G) (set := i)
    have l1 := lps16 hG i
    show brk G i d + cfA (lps G i - 1) (d - (2 * rai G i - nX G)) = 0
    rw [brk_far hG h12 h i, cfA_far (by omega)]
    rfl
section BRQ
variable {E : am_E} {k : Nat} {m : MM} {γ : GM} {t : am_H} {a : AST} {Q : Int → MM → GM → am_H → Prop}
def isB (a : AST) (s d : Int) : Prop := isG a.1 s ∧ (-100 ≤ d ∧ d ≤ 100) ∧ nX (a.1 s.toNat) ≤ 12
theorem S_isBracket {s d : Int} (hR : RI m a) (hs : rJ s) (hd : rJ d) (q0 : ∀ m1, ¬ isB a s d → fr SL SF m m1 → Q 0 m1 γ t) (q1 : ∀ m1, isB a s d → fr SL SF m m1 → RG m1 (a.1 s.toNat) → RS m1 (a.1 s.toNat) → RP m1 (a.1 s.toNat) → Q 1 m1 γ t) : TI E (k + 5) 272 [.ref 158, .int (iI s), .int (iI d)] m γ t Q := by
  refine vc_X9_isBracket hs hd (S_isLaid hR hs (fun c => b0 (q0 m (fun h => c h.1) fr.refl)) (fun m1 c hf hG hS hP => b1 (S_in (by omega) (by omega) (by omega) (fun c2 => b1 ?_) (fun c2 => b0 (q0 m1 (fun h => c2 h.2.1) hf)))))
  have hle := hG.le
  refine S_crosses hG.1.2.2.1 (by omega) ?_
  rw [cnt_how hG 0, cnt_how hG 1]
  exact ⟨fun c3 => q1 m1 ⟨c, c2, c3⟩ hf hG hS hP, fun c3 => q0 m1 (fun h => c3 h.2.2) hf⟩
noncomputable def v_bracket (a : AST) (s d : Int) : Int := ift (isB a s d) (trm (a.1 s.toNat) d) (-1000000000)
theorem R_bracket {Q : Int → MM → GM → am_H → Prop} {s d : Int} (hR : RI m a) (hs : rJ s) (hd : rJ d) (hQ : ∀ m1, fr SL SF m m1 → Q (v_bracket a s d) m1 γ t) : TL E (k + 6) 273 [.ref 158, .int (iI s), .int (iI d)] m γ t Q := by
  unfold v_bracket at hQ
  refine vc_X9_bracket hs hd (S_isBracket hR hs hd (fun m1 c hf => b0 ?_) (fun m1 c hf hG hS hP => b1 (S_laysBracket hG c.2.2 (fun m2 hf2 hG2 h2 => ?_))))
  · have := hQ m1 hf
    rw [ift_f c] at this
    exact this
  · have := hQ m2 (hf.trans (hf2.mono (by decide) (by decide)))
    have hc := c.2.1
    rw [ift_t c, trm_brk hG.2.2.1 hG.2.2.2 c.2.2, ] at this
    refine ⟨by omega, ?_⟩
    rw [h2 _ (by omega), brk_R hG.2.2.1 hG.2.2.2 c.2.2 (by omega), show (((120 + d).toNat : Nat) : Int) - 120 = d by omega]
    exact this
end BRQ
