/-! ===== told: the reference's lines, and told ===== -/
section RL
variable {E : am_E} {k : Nat} {m : MM} {γ : GM} {t : am_H} {tp : List Int} {R : (Int × Int) × GV}
theorem L59B {Q : MM → GM → am_H → Prop} {y : Int} (hy : rJ y) (h : m 158 39 ≠ 0) (hQ : Q m γ t) : hd_X9_readsLine_59 E (k + 5) y m γ t Q :=
  vc_X9_readsLine_59 hy (S_isSignB (by omega) h ⟨fun _ => S_isSignB (by omega) h (S_mustB (Or.inl rfl) h hQ), fun c => absurd rfl c⟩)
theorem BD.b (h : BD R m) : m 158 39 ≠ 0 := by rw [h.1]; decide
theorem L59 {Q : MM → GM → am_H → Prop} {y : Int} (hE : EV E) : ∀ (n : Nat) (m : MM) (s : PS), OKs R tp m s → s.1 = 7 → s.2.2.1 = y → tp.length < n + s.2.2.2.2.2 → GRD m s.2.2.2.2.1 → (∀ m1, BD R m1 → fr [162] FT m m1 → Q m1 γ t) → (∀ m1 s', OKs R tp m1 s' → s'.1 = 4 → s.2.2.2.2.2 < s'.2.2.2.2.2 → GRD m1 s'.2.2.2.2.1 → fr [162] FT m m1 → Q m1 γ t) → hd_X9_readsLine_59 E (k + 5) y m γ t Q := by
  intro n
  induction n with
  | zero =>
    intro m s hO h7 hy hl
    have := hO.2.2.2.2.2.1
    omega
  | succ n ih =>
    intro m s hO h7 hy hl hG qb qg
    obtain ⟨v1, v2, v3, v4, v5, v6, v7⟩ := hO.2.2.2.2
    have hyr := v6 (by omega)
    have hne : ¬ (kst tp s.2.2.2.2.2 = 0 ∧ s.1 = 4) := fun z => by omega
    have efl : fl tp s = ift (kst tp s.2.2.2.2.2 = 3 ∧ (kv tp s.2.2.2.2.2 = 59 ∨ kv tp s.2.2.2.2.2 = 44)) 0 1 := by
      unfold fl
      rw [if_neg (by omega), if_neg (by omega), if_neg (by omega), if_neg (by omega), if_neg (by omega), if_neg (by omega)]
    have enx : nxs tp s = (if kv tp s.2.2.2.2.2 = 59 then 4 else 5, s.2.1, s.2.2.1, s.2.2.2.1, s.2.2.2.2.1, kq tp s.2.2.2.2.2) := by
      unfold nxs
      rw [if_neg (by omega), if_neg (by omega), if_neg (by omega), if_neg (by omega), if_neg (by omega), if_neg (by omega), if_neg (by omega)]
    have hgt : fl tp s = 0 → s.2.2.2.2.2 < kq tp s.2.2.2.2.2 := fun hx => by
      have := (kq_gt v2).2.2.2.2 (fl_k v1 hx)
      have := (kq_gt v2).2.1
      omega
    obtain ⟨g1, g2, g3, g4, g5, g6, g7⟩ := hO.1
    refine vc_X9_readsLine_59 (by omega) (S_isSignR s.2.2.2.2.2 hO.1 (by omega) (fun c => b1 ?_) (fun c => b0 ?_))
    · have hx : fl tp s = 0 := by rw [efl]; exact ift_t ⟨c.1, Or.inr c.2⟩
      rw [if_neg (by omega)] at enx
      have hq := hgt hx
      refine S_next (kq tp s.2.2.2.2.2) g1 (kq_gt v2).2.2.1 g5 g7 (fun F e1 e2 => ?_)
      have hO1 := hO.next hne hx e1 e2
      rw [enx] at hO1
      refine S_readsEdge hE hO1 rfl hy (hG.fr (fr_58 e1)) (fun m1 hB f1 => L59B (by omega) hB.b (qb m1 hB (((fr_58 e1).mono (by decide) (by decide)).trans f1))) (fun m1 s' hO2 i7 iy ip hG2 f1 => ?_)
      have ip : kq tp s.2.2.2.2.2 < s'.2.2.2.2.2 := ip
      have f2 : fr [162] FT m m1 := ((fr_58 e1).mono (by decide) (by decide)).trans f1
      exact ih m1 s' hO2 i7 (iy) (by omega) hG2 (fun m2 hB f3 => qb m2 hB (f2.trans f3)) (fun m2 s2 hO3 j4 jp hG3 f3 => qg m2 s2 hO3 j4 (by omega) hG3 (f2.trans f3))
    · refine S_isSignR s.2.2.2.2.2 hO.1 (by omega) (fun c2 => ?_) (fun c2 => ?_)
      · have hx : fl tp s = 0 := by rw [efl]; exact ift_t ⟨c2.1, Or.inl c2.2⟩
        rw [if_pos c2.2] at enx
        have hq := hgt hx
        refine S_mustR hO hne (Or.inr rfl) (fun z => absurd z (by decide)) (fun _ => hx) (fun m1 hB f1 => qb m1 hB (f1.mono (by decide) (by decide))) (fun m1 _ hO1 f1 => ?_)
        rw [enx] at hO1
        exact qg m1 _ hO1 rfl hq (hG.fr f1) (f1.mono (by decide) (by decide))
      · have hx : fl tp s = 1 := by
          rw [efl]
          refine ift_f (fun z => ?_)
          rcases z.2 with w | w
          · exact c2 ⟨z.1, w⟩
          · exact c ⟨z.1, w⟩
        exact S_mustR hO hne (Or.inl rfl) (fun _ => hx) (fun z => absurd z (by decide)) (fun m1 hB f1 => qb m1 hB (f1.mono (by decide) (by decide))) (fun m1 z _ _ => absurd (hx.symm.trans z) (by decide))
theorem S_readsLine {Q : MM → GM → am_H → Prop} {s : PS} (hE : EV E) (hO : OKs R tp m s) (h4 : s.1 = 4) (hk : kst tp s.2.2.2.2.2 ≠ 0) (hG : GRD m s.2.2.2.2.1) (qb : ∀ m1, BD R m1 → fr [162] FT m m1 → Q m1 γ t) (qg : ∀ m1 s', OKs R tp m1 s' → s'.1 = 4 → s.2.2.2.2.2 < s'.2.2.2.2.2 → GRD m1 s'.2.2.2.2.1 → fr [162] FT m m1 → Q m1 γ t) : TV E (k + 6) 231 [.ref 158] m γ t Q := by
  obtain ⟨v1, v2, v3, v4, v5, v6, v7⟩ := hO.2.2.2.2
  have hne : ¬ (kst tp s.2.2.2.2.2 = 0 ∧ s.1 = 4) := fun z => hk z.1
  have efl : fl tp s = ift (kst tp s.2.2.2.2.2 = 1 ∧ 1 ≤ kv tp s.2.2.2.2.2 ∧ kv tp s.2.2.2.2.2 ≤ 3) 0 1 := by
    unfold fl
    rw [if_neg (by omega), if_neg (by omega), if_neg (by omega), if_pos h4]
  have enx : nxs tp s = (5, s.2.1, kv tp s.2.2.2.2.2, s.2.2.2.1, s.2.2.2.2.1, kq tp s.2.2.2.2.2) := by
    unfold nxs
    rw [if_neg (by omega), if_neg (by omega), if_neg (by omega), if_neg (by omega), if_pos h4]
  have hgt : fl tp s = 0 → s.2.2.2.2.2 < kq tp s.2.2.2.2.2 := fun hx => by
    have := (kq_gt v2).2.2.2.2 (fl_k v1 hx)
    have := (kq_gt v2).2.1
    omega
  have good : ∀ y : Int, kst tp s.2.2.2.2.2 = 1 → kv tp s.2.2.2.2.2 = y → 1 ≤ y ∧ y ≤ 3 → TV E (k + 5) 227 [.ref 158, .int (iI 1)] m γ t (fun m1 γ1 t1 => TV E (k + 5) 230 [.ref 158, .int (iI y)] m1 γ1 t1 (fun m2 γ2 t2 => hd_X9_readsLine_59 E (k + 5) y m2 γ2 t2 Q)) := by
    intro y c1 c2 c3
    have hx : fl tp s = 0 := by rw [efl]; exact ift_t ⟨c1, by omega⟩
    have hq := hgt hx
    refine S_mustR hO hne (Or.inr rfl) (fun z => absurd z (by decide)) (fun _ => hx) (fun m1 hB f1 => S_readsEdgeB (by omega) v4.1 (hG.fr f1).1 hB.b (L59B (by omega) hB.b (qb m1 hB (f1.mono (by decide) (by decide))))) (fun m1 _ hO1 f1 => ?_)
    rw [enx] at hO1
    have f1' : fr [162] FT m m1 := f1.mono (by decide) (by decide)
    refine S_readsEdge hE hO1 rfl c2 (hG.fr f1) (fun m2 hB f2 => L59B (by omega) hB.b (qb m2 hB (f1'.trans f2))) (fun m2 s' hO2 i7 iy ip hG2 f2 => ?_)
    have ip : kq tp s.2.2.2.2.2 < s'.2.2.2.2.2 := ip
    exact L59 hE (tp.length + 1) m2 s' hO2 i7 iy (by omega) hG2 (fun m3 hB f3 => qb m3 hB ((f1'.trans f2).trans f3)) (fun m3 s2 hO3 j4 jp hG3 f3 => qg m3 s2 hO3 j4 (by omega) hG3 ((f1'.trans f2).trans f3))
  refine vc_X9_readsLine (S_isWord 13 s.2.2.2.2.2 hE (by decide) hO.1 (fun c => b1 ?_) (fun c => b0 ?_))
  · exact good 1 c.1 ((kv_word (i := 1) c.1 (by decide)).mpr c.2) (by decide)
  · refine S_isWord 14 s.2.2.2.2.2 hE (by decide) hO.1 (fun c2 => b1 ?_) (fun c2 => b0 ?_)
    · exact good 2 c2.1 ((kv_word (i := 2) c2.1 (by decide)).mpr c2.2) (by decide)
    · refine S_isWord 15 s.2.2.2.2.2 hE (by decide) hO.1 (fun c3 => b1 ?_) (fun c3 => b0 ?_)
      · exact good 3 c3.1 ((kv_word (i := 3) c3.1 (by decide)).mpr c3.2) (by decide)
      · have hx : fl tp s = 1 := by
          rw [efl]
          refine ift_f (fun z => ?_)
          have : kv tp s.2.2.2.2.2 = ((1 : Nat) : Int) ∨ kv tp s.2.2.2.2.2 = ((2 : Nat) : Int) ∨ kv tp s.2.2.2.2.2 = ((3 : Nat) : Int) := by omega
          rcases this with w | w | w
          · exact c ⟨z.1, (kv_word (i := 1) z.1 (by decide)).mp w⟩
          · exact c2 ⟨z.1, (kv_word (i := 2) z.1 (by decide)).mp w⟩
          · exact c3 ⟨z.1, (kv_word (i := 3) z.1 (by decide)).mp w⟩
        exact S_mustR hO hne (Or.inl rfl) (fun _ => hx) (fun z => absurd z (by decide)) (fun m1 hB f1 => S_readsEdgeB (by omega) v4.1 (hG.fr f1).1 hB.b (L59B (by omega) hB.b (qb m1 hB (f1.mono (by decide) (by decide))))) (fun m1 z _ _ => absurd (hx.symm.trans z) (by decide))
end RL
