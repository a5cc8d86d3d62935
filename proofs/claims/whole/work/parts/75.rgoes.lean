/-! ===== the reference: goes, passes, laysPassings ===== -/
def RT (m0 m : MM) (A : AS) : Prop :=
  m 166 = fu (fun x => x.2.2.1) (fun x => (x.1 : Int)) (m0 166) A.1 ∧ m 167 = fu (fun x => x.2.2.1) (fun x => (x.2.1 : Int)) (m0 167) A.1 ∧ m 168 = fu (fun x => x.2.2.1) (fun x => bb x.2.2.2) (m0 168) A.1 ∧ m 169 = lsF (fun x => (x.2.2.1 : Int)) A.1 (m0 169) ∧ m 170 = lsF (fun n : Nat => (n : Int)) A.2.2.1 (m0 170)
def tF (G : GV) : Nat → Int := fu (fun x => x.2.2.1) (fun x => bb x.2.2.2) (fun _ => 0) (aG G).1
/-- the reference's rows of strands -/
def RS (m : MM) (G : GV) : Prop := (∀ c, c < nC G → m 166 c = tS G c ∧ m 167 c = tP G c ∧ m 168 c = tF G c ∧ m 169 c = tO G c) ∧ (∀ s, s ≤ nS G → m 170 s = tB G s) ∧ m 158 16 = (nS G : Int)
theorem RT.fr {m0 m m1 : MM} {A : AS} {l fl : List Nat} (h : RT m0 m A) (hf : fr l fl m m1) (h1 : 166 ∉ l) (h2 : 167 ∉ l) (h3 : 168 ∉ l) (h4 : 169 ∉ l) (h5 : 170 ∉ l) : RT m0 m1 A := by
  unfold RT
  rw [hf.1 166 (by decide) h1, hf.1 167 (by decide) h2, hf.1 168 (by decide) h3, hf.1 169 (by decide) h4, hf.1 170 (by decide) h5]
  exact h
theorem RT_nt {G : GV} {m0 m : MM} {A : AS} (h : RT m0 m A) {s i c : Nat} {b : Bool} (hs : s = A.2.2.1.length - 1) : RT m0 (up (up (up (up m 166 (up (m 166) c (s : Int))) 167 (up (m 167) c (i : Int))) 168 (up (m 168) c (bb b))) 169 (up (m 169) A.1.length (c : Int))) (nt G A i (c, b)) := by
  subst hs
  obtain ⟨h1, h2, h3, h4, h5⟩ := h
  unfold nt
  refine ⟨?_, ?_, ?_, ?_, h5⟩
  · show up (m 166) c _ = _
    rw [fu_app, ← h1]
  · show up (m 167) c _ = _
    rw [fu_app, ← h2]
  · show up (m 168) c _ = _
    rw [fu_app, ← h3]
  · show up (m 169) A.1.length _ = _
    rw [lsF_app, ← h4]
theorem RT_stt {m0 m : MM} {A : AS} (h : RT m0 m A) : RT m0 (up m 170 (up (m 170) A.2.2.1.length (A.1.length : Int))) (stt A) := by
  obtain ⟨h1, h2, h3, h4, h5⟩ := h
  refine ⟨h1, h2, h3, h4, ?_⟩
  show up (m 170) A.2.2.1.length _ = _
  unfold stt
  rw [lsF_app, ← h5]
theorem RT_RS {G : GV} (hG : vG G) {m0 m : MM} (h : RT m0 m (aG G)) (hs : m 158 16 = (nS G : Int)) : RS (up m 170 (up (m 170) (nS G) (nC G : Int))) G := by
  obtain ⟨h1, h2, h3, h4, h5⟩ := h
  refine ⟨fun c hc => ?_, fun s hs => ?_, hs⟩
  · obtain ⟨x, hx1, hx2⟩ := out_all hG hc
    have q := fun (v : Nat × Nat × Nat × Bool → Int) => fu_in (i := fun x : Nat × Nat × Nat × Bool => x.2.2.1) (v := v) (c := c) ⟨x, hx1, hx2⟩
    refine ⟨?_, ?_, ?_, ?_⟩
    · obtain ⟨y, -, -, hy⟩ := q (fun x => (x.1 : Int))
      show m 166 c = _
      rw [h1, hy]
      exact (hy _).symm
    · obtain ⟨y, -, -, hy⟩ := q (fun x => (x.2.1 : Int))
      show m 167 c = _
      rw [h2, hy]
      exact (hy _).symm
    · obtain ⟨y, -, -, hy⟩ := q (fun x => bb x.2.2.2)
      show m 168 c = _
      rw [h3, hy]
      exact (hy _).symm
    · show m 169 c = _
      rw [h4]
      exact lsF_base (by rw [out_len hG]; exact hc)
  · show up (m 170) (nS G) (nC G : Int) s = _
    unfold tB
    rw [lsF_app]
    show up (m 170) (nS G) (nC G : Int) s = up _ (nS G) (nC G : Int) s
    unfold up
    split
    · rfl
    · rw [h5]
      exact lsF_base (by unfold nS at *; omega)
section R3
variable {E : am_E} {k : Nat} {m : MM} {γ : GM} {t : am_H}
theorem goes_70 {Q : MM → GM → am_H → Prop} {G : GV} {m0 : MM} {A : AS} {c0 : Nat} {y1 : Int} (hy1 : rJ y1) (hG : vG G) (hA : clo G A) (hp : pok G A) (hc : c0 < nC G) (hv : c0 ∉ cs A) (hl : A.2.2.1.length ≤ 64) (h16 : ∀ c, c < nC G → m0 166 c = -1)
    (hQ : ∀ m1, RG m1 G → RT m0 m1 (fol G A c0) → fr [166, 167, 168, 169, 170] [16, 17, 18, 19] m0 m1 → m1 158 16 = (A.2.2.1.length : Int) + 1 → hd_X9_goes_36 E (k + 1) y1 ((A.1.length + len G c0 : Nat) : Int) ((c0 : Int) + 1) m1 γ t Q) :
    ∀ i, i ≤ len G c0 → ∀ m1, RG m1 G → RT m0 m1 (inn G (stt A) c0 i) → fr [166, 167, 168, 169, 170] [16, 17, 18, 19] m0 m1 → m1 158 16 = (A.2.2.1.length : Int) → hd_X9_goes_70 E (k + 1) y1 ((A.1.length + i : Nat) : Int) (c0 : Int) ((nxi G i (c0, true)).1 : Int) (bb (nxi G i (c0, true)).2) m1 γ t Q := by
  obtain ⟨l1, l2, l3, l4⟩ := len_ok hG hc
  have h64 := nC_le64 hG
  have hlen : ∀ i, (inn G (stt A) c0 i).1.length = A.1.length + i := fun i => by
    rw [(inn_l G (stt A) c0 i).1]
    simp [stt]
  have hvis : ∀ i (m1 : MM), RT m0 m1 (inn G (stt A) c0 i) → ∀ c, c < nC G → (c ∈ cs (inn G (stt A) c0 i) ↔ m1 166 c ≠ -1) := by
    intro i m1 hT c hc6
    rw [hT.1]
    constructor
    · intro hm
      obtain ⟨x, hx1, hx2⟩ := List.mem_map.mp hm
      obtain ⟨y, -, -, hy⟩ := fu_in (i := fun x : Nat × Nat × Nat × Bool => x.2.2.1) (v := fun x => (x.1 : Int)) (c := c) ⟨x, hx1, hx2⟩
      rw [hy]
      omega
    · intro hn
      refine Classical.byContradiction (fun hm => hn ?_)
      rw [fu_out (fun x hx e => hm (List.mem_map.mpr ⟨x, hx, e⟩))]
      exact h16 c hc6
  have hroom : A.1.length + len G c0 ≤ nC G := by
    have := inn_nodup hG hA hc hv (len G c0) (Nat.le_refl _)
    have h2 := nodup_le (nC G) _ this.1 this.2
    unfold cs at h2
    rw [List.length_map, hlen] at h2
    exact h2
  have hbb : ∀ b, bb b = 0 ∨ bb b = 1 := fun b => by cases b <;> simp [bb]
  refine upN ?_ ?_
  · intro m1 hR hT hf hs
    have hmem : c0 ∈ cs (inn G (stt A) c0 (len G c0)) := by
      rw [inn_cs]
      exact List.mem_append_right _ (List.mem_map.mpr ⟨0, List.mem_range.mpr l1, rfl⟩)
    have h6 := (hvis _ m1 hT c0 hc).mp hmem
    rw [l3]
    refine vc_X9_goes_70 hy1 (by omega) (by omega) (by omega) (by have := hbb (c0, true).2; omega) ⟨by omega, fun c => absurd c ?_, fun c => ⟨by omega, ?_⟩⟩
    · rw [Int.toNat_natCast]
      exact h6
    · refine hQ _ (hR.fr (l := []) (fl := [16]) (fr.refl.upf (by decide)) (by decide) (by decide) (by decide) (by decide) (by decide) (by decide) (by decide)) (hT.fr (l := []) (fl := [16]) (fr.refl.upf (by decide)) (by decide) (by decide) (by decide) (by decide) (by decide)) (hf.upf (by decide)) ?_
      show m1 158 16 + 1 = _
      rw [hs]
  · intro i hi ih m1 hR hT hf hs
    have hlt := nxi_lt hG (x := (c0, true)) hc i
    have hnew := inn_new hG hA hc hv hi
    have hb := hbb (nxi G i (c0, true)).2
    have h6 : m1 166 ((nxi G i (c0, true)).1) = -1 := Classical.byContradiction (fun q => hnew ((hvis i m1 hT _ hlt).mpr q))
    have h170 : m1 170 A.2.2.1.length = (A.1.length : Int) := by
      rw [hT.2.2.2.2, (inn_l G (stt A) c0 i).2]
      refine lsF_in ?_
      show (A.2.2.1 ++ [A.1.length])[A.2.2.1.length]? = _
      rw [List.getElem?_append_right (Nat.le_refl _), Nat.sub_self]
      rfl
    refine vc_X9_goes_70 hy1 (by omega) (by omega) (by omega) (by omega) ⟨by omega, fun c => ?_, fun c => absurd (by rw [Int.toNat_natCast]; exact h6) c⟩
    rw [hs, Int.toNat_natCast, Int.toNat_natCast, h170]
    refine ⟨by omega, by omega, by omega, by omega, by omega, hb, by omega, ?_⟩
    have hin : inn G (stt A) c0 (i + 1) = nt G (inn G (stt A) c0 i) i (nxi G i (c0, true)) := rfl
    have hT2 := RT_nt (G := G) hT (s := A.2.2.1.length) (i := i) (c := (nxi G i (c0, true)).1) (b := (nxi G i (c0, true)).2) (by rw [(inn_l G (stt A) c0 i).2]; simp [stt])
    rw [hlen] at hT2
    rw [show ((A.1.length + i : Nat) : Int) - (A.1.length : Int) = (i : Int) by omega, Int.toNat_natCast]
    have hf1 : fr [166, 167, 168, 169] [] m1 (up (up (up (up m1 166 (up (m1 166) (nxi G i (c0, true)).1 (A.2.2.1.length : Int))) 167 (up (m1 167) (nxi G i (c0, true)).1 (i : Int))) 168 (up (m1 168) (nxi G i (c0, true)).1 (bb (nxi G i (c0, true)).2))) 169 (up (m1 169) (A.1.length + i) ((nxi G i (c0, true)).1 : Int))) := (((fr.refl.upa 166 (by decide) (by decide)).upa 167 (by decide) (by decide)).upa 168 (by decide) (by decide)).upa 169 (by decide) (by decide)
    have hR2 := hR.fr hf1 (by decide) (by decide) (by decide) (by decide) (by decide) (by decide) (by decide)
    refine S_goesOn rfl rfl hR2 hlt (fun m2 hf2 a1 a2 a3 => ?_)
    rw [a1, a2]
    have := ih m2 (hR2.fr hf2 (by decide) (by decide) (by decide) (by decide) (by decide) (by decide) (by decide)) (by rw [hin]; exact hT2.fr hf2 (by decide) (by decide) (by decide) (by decide) (by decide)) ((hf.trans (hf1.mono (by decide) (by decide))).trans (hf2.mono (by decide) (by decide))) (by rw [hf2.2 16 (by decide)]; exact hs)
    rw [show ((A.1.length + (i + 1) : Nat) : Int) = ((A.1.length + i : Nat) : Int) + 1 by omega] at this
    exact this
theorem S_goes {Q : MM → GM → am_H → Prop} {G : GV} (h : RG m G) (hQ : ∀ m1, fr [166, 167, 168, 169, 170] [16, 17, 18, 19] m m1 → RS m1 G → Q m1 γ t) : TV E (k + 2) 210 [.ref 158] m γ t Q := by
  have hle := h.le
  have hG := h.2.2.1
  have h64 := nC_le64 hG
  have hnS := nS_nC G
  have hRC : G.1 * G.2.1 ≤ 16 := Nat.mul_le_mul hle.1 hle.2.1
  refine vc_X9_goes (S_cells h.1 hle.1 hle.2.1 ?_)
  have hall : (4 * ((G.1 * G.2.1 : Nat) : Int)) = (nC G : Int) := by unfold nC; omega
  show hd_X9_goes_9 E (k + 1) (4 * ((G.1 * G.2.1 : Nat) : Int)) 0 m γ t Q
  rw [hall]
  -- from the second loop on
  have second : ∀ m0 : MM, RG m0 G → fr [166, 167, 168, 169, 170] [16, 17, 18, 19] m m0 → (∀ c, c < nC G → m0 166 c = -1) → m0 158 16 = 0 → hd_X9_goes_36 E (k + 1) (nC G : Int) 0 0 m0 γ t Q := by
    intro m0 hR0 hf0 hneg h160
    have loop : ∀ c, c ≤ nC G → ∀ m1, RG m1 G → RT m0 m1 (out G c) → fr [166, 167, 168, 169, 170] [16, 17, 18, 19] m0 m1 → m1 158 16 = ((out G c).2.2.1.length : Int) → hd_X9_goes_36 E (k + 1) (nC G : Int) ((out G c).1.length : Int) (c : Int) m1 γ t Q := by
      refine upN ?_ ?_
      · intro m1 hR hT hf hs
        have hs : m1 158 16 = (nS G : Int) := hs
        have hl := out_len hG
        have hl : (out G (nC G)).1.length = nC G := hl
        refine vc_X9_goes_36 (by omega) (by omega) (by omega) ⟨fun c => absurd c (by omega), fun c => ⟨by omega, ?_⟩⟩
        rw [hs, Int.toNat_natCast, hl]
        exact hQ _ ((hf0.trans hf).upa 170 (by decide) (by decide)) (RT_RS hG hT hs)
      · intro c hc ih m1 hR hT hf hs
        have hA := (out_clo hG c (by omega)).1
        have hl := nS_le (G := G) c
        have hle1 : (out G c).1.length ≤ nC G := by
          have h2 := nodup_le (nC G) _ hA.1 hA.2.1
          unfold cs at h2
          rw [List.length_map] at h2
          exact h2
        have hout : out G (c + 1) = if visb (out G c) c then out G c else fol G (out G c) c := rfl
        have hfl : (fol G (out G c) c).2.2.1.length = (out G c).2.2.1.length + 1 := by
          unfold fol
          rw [(inn_l G _ c _).2]
          simp [stt]
        have hfl1 : (fol G (out G c) c).1.length = (out G c).1.length + len G c := by
          unfold fol
          rw [(inn_l G _ c _).1]
          simp [stt]
        have hvis : visb (out G c) c = true ↔ m1 166 c ≠ -1 := by
          rw [visb_iff, hT.1]
          constructor
          · intro hm
            obtain ⟨x, hx1, hx2⟩ := List.mem_map.mp hm
            obtain ⟨y, -, -, hy⟩ := fu_in (i := fun x : Nat × Nat × Nat × Bool => x.2.2.1) (v := fun x => (x.1 : Int)) (c := c) ⟨x, hx1, hx2⟩
            rw [hy]
            omega
          · intro hn
            refine Classical.byContradiction (fun hm => hn ?_)
            rw [fu_out (fun x hx e => hm (List.mem_map.mpr ⟨x, hx, e⟩))]
            exact hneg c hc
        refine vc_X9_goes_36 (by omega) (by omega) (by omega) ⟨fun c1 => ⟨by omega, fun c2 => ⟨by omega, ?_⟩, fun c2 => ?_⟩, fun c1 => absurd c1 (by omega)⟩
        · rw [Int.toNat_natCast] at c2
          have hvb : ¬ visb (out G c) c = true := fun z => hvis.mp z c2
          rw [hs, Int.toNat_natCast]
          have hf1 : fr [170] [] m1 (up m1 170 (up (m1 170) (out G c).2.2.1.length ((out G c).1.length : Int))) := fr.refl.upa 170 (by decide) (by decide)
          have := goes_70 (E := E) (k := k) (γ := γ) (t := t) (Q := Q) (y1 := (nC G : Int)) (A := out G c) (c0 := c) (by omega) hG hA (out_pok _ c) hc (fun z => hvb (visb_iff.mpr z)) (by omega) hneg (fun m2 hR2 hT2 hf2 hs2 => by
            have := ih m2 hR2 (by rw [hout, if_neg hvb]; exact hT2) hf2 (by rw [hout, if_neg hvb, hfl]; omega)
            rw [hout, if_neg hvb, hfl1] at this
            exact this) 0 (Nat.zero_le _) (up m1 170 (up (m1 170) (out G c).2.2.1.length ((out G c).1.length : Int))) (hR.fr hf1 (by decide) (by decide) (by decide) (by decide) (by decide) (by decide) (by decide)) (RT_stt hT) (hf.trans (hf1.mono (by decide) (by decide))) hs
          exact this
        · rw [Int.toNat_natCast] at c2
          have hvb : visb (out G c) c = true := hvis.mpr c2
          have := ih m1 hR (by rw [hout, if_pos hvb]; exact hT) hf (by rw [hout, if_pos hvb]; exact hs)
          rw [hout, if_pos hvb] at this
          exact this
    exact loop 0 (Nat.zero_le _) m0 hR0 ⟨rfl, rfl, rfl, rfl, rfl⟩ fr.refl h160
  refine upN (n := nC G) (P := fun e => ∀ m1, RG m1 G → fr [166, 167, 168, 169, 170] [16, 17, 18, 19] m m1 → (∀ c, c < e → m1 166 c = -1) → hd_X9_goes_9 E (k + 1) (nC G : Int) (e : Int) m1 γ t Q) ?_ ?_ 0 (Nat.zero_le _) m h fr.refl (fun c hc => absurd hc (Nat.not_lt_zero _))
  · intro m1 hR hf hneg
    refine vc_X9_goes_9 (by omega) (by omega) ⟨fun c => absurd c (by omega), fun c => ?_⟩
    exact second _ (hR.fr (l := []) (fl := [16]) (fr.refl.upf (by decide)) (by decide) (by decide) (by decide) (by decide) (by decide) (by decide) (by decide)) (hf.upf (by decide)) hneg rfl
  · intro e he ih m1 hR hf hneg
    refine vc_X9_goes_9 (by omega) (by omega) ⟨fun c => ⟨by omega, ?_⟩, fun c => absurd c (by omega)⟩
    rw [Int.toNat_natCast]
    refine ih _ (hR.fr (l := [166]) (fl := []) (fr.refl.upa 166 (by decide) (by decide)) (by decide) (by decide) (by decide) (by decide) (by decide) (by decide) (by decide)) (hf.upa 166 (by decide) (by decide)) (fun c hc => ?_)
    rw [up_self]
    unfold up
    split
    · rfl
    · exact hneg c (by omega)
end R3
