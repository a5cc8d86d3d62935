/-! ===== passings: each over, each under, is one ===== -/
theorem cp_mono {G : GV} {i j : Nat} (h : i ≤ j) : cp G i ≤ cp G j := by
  unfold cp
  have : ((aG G).1.take i).Sublist ((aG G).1.take j) := by
    rw [show i = min i j by omega, ← List.take_take]
    exact List.take_sublist _ _
  exact (this.filter _).length_le
section PS
variable {G : GV}
theorem pas_idx {y : Nat × Nat × Nat × Bool} (hy : y ∈ (aG G).2.1) : (aG G).2.1[y.1]? = some y ∧ y.1 < nP G := by
  obtain ⟨j, hj, e⟩ := List.getElem_of_mem hy
  have h4 := out_pk4 G (nC G)
  unfold pk4 at h4
  have h5 : (aG G).2.1[j]? = some y := by rw [List.getElem?_eq_getElem hj, e]
  have h6 : (out G (nC G)).2.1[j]? = some y := h5
  rw [h4, List.getElem?_map, List.getElem?_zipIdx] at h6
  cases hx : (List.filter (isCx G) (out G (nC G)).1)[j]? with
  | none => rw [hx] at h6; cases h6
  | some x =>
    rw [hx] at h6
    simp at h6
    have : y.1 = j := by rw [← h6]
    rw [this]
    exact ⟨h5, hj⟩
theorem pas_get {j : Nat} (hj : j < nP G) : ∃ y ∈ (aG G).2.1, y.1 = j ∧ (aG G).2.1[j]? = some y := by
  refine ⟨(aG G).2.1[j], List.getElem_mem hj, ?_, List.getElem?_eq_getElem hj⟩
  have h1 := pas_idx (List.getElem_mem hj)
  have h4 := out_pk4 G (nC G)
  unfold pk4 at h4
  have h6 : (out G (nC G)).2.1[j]? = some ((aG G).2.1[j]) := List.getElem?_eq_getElem hj
  rw [h4, List.getElem?_map, List.getElem?_zipIdx] at h6
  cases hx : (List.filter (isCx G) (out G (nC G)).1)[j]? with
  | none => rw [hx] at h6; cases h6
  | some x =>
    rw [hx] at h6
    simp at h6
    rw [← h6]
theorem pas_cross (hG : vG G) {y : Nat × Nat × Nat × Bool} (hy : y ∈ (aG G).2.1) : isC G y.2.2 = true ∧ y.2.2.1 < nC G ∧ pE G y.2.2 < gn G.1 G.2.1 ∧ crX G (pE G y.2.2) ∧ (pE G y.2.2 : Int) = exe G.1 G.2.1 y.2.2.1 y.2.2.2 := by
  have hp := out_pok G (nC G)
  unfold pok at hp
  have hm : y.2.2 ∈ (out G (nC G)).2.1.map (fun y => y.2.2) := List.mem_map.mpr ⟨y, hy, rfl⟩
  rw [hp] at hm
  obtain ⟨h1, h2⟩ := List.mem_filter.mp hm
  obtain ⟨x, hx, e⟩ := List.mem_map.mp h1
  have hl := ent_lt hG (show x ∈ (aG G).1 from hx)
  rw [e] at hl
  have hr := exe_rng hG hl
  obtain ⟨e1, e2⟩ := isC_ed h2
  have hk : exk G y.2.2 = 0 ∨ exk G y.2.2 = 1 := by unfold isC at h2; exact of_decide_eq_true h2
  refine ⟨h2, hl, by unfold pE; omega, ?_, by unfold pE; omega⟩
  unfold crX pE
  rw [← e2]
  exact hk
theorem pas_inj (hG : vG G) {y z : Nat × Nat × Nat × Bool} (hy : y ∈ (aG G).2.1) (hz : z ∈ (aG G).2.1) (he : pE G y.2.2 = pE G z.2.2) (ho : pO G y.2.2 = pO G z.2.2) : y = z := by
  have hn := code_nodup hG (out_clo hG (nC G) (Nat.le_refl _)).1
  have hp := out_pok G (nC G)
  unfold pok at hp
  rw [← hp, List.map_map] at hn
  refine nodup_inj (f := pcode G ∘ fun y : Nat × Nat × Nat × Bool => y.2.2) hn y hy z hz ?_
  show pcode G y.2.2 = pcode G z.2.2
  unfold pcode
  have h1 : (exe G.1 G.2.1 y.2.2.1 y.2.2.2).toNat = (exe G.1 G.2.1 z.2.2.1 z.2.2.2).toNat := he
  have h2 : ovr G.1 G.2.1 (exk G y.2.2) y.2.2.1 y.2.2.2 = ovr G.1 G.2.1 (exk G z.2.2) z.2.2.1 z.2.2.2 := ho
  rw [h1, h2]
theorem fu_ov (hG : vG G) {v : Nat × Nat × Nat × Bool → Int} {F : Nat → Int} {y : Nat × Nat × Nat × Bool} (hy : y ∈ (aG G).2.1) (ho : pO G y.2.2 = true) : fu (fun y => pE G y.2.2) v F (ovL G) (pE G y.2.2) = v y := by
  have hm : y ∈ ovL G := List.mem_filter.mpr ⟨hy, ho⟩
  obtain ⟨z, hz1, hz2, hz⟩ := fu_in (i := fun y : Nat × Nat × Nat × Bool => pE G y.2.2) (v := v) (c := pE G y.2.2) ⟨y, hm, rfl⟩
  rw [hz]
  obtain ⟨q1, q2⟩ := List.mem_filter.mp hz1
  rw [pas_inj hG q1 hy hz2 (q2.trans ho.symm)]
theorem fu_un (hG : vG G) {v : Nat × Nat × Nat × Bool → Int} {F : Nat → Int} {y : Nat × Nat × Nat × Bool} (hy : y ∈ (aG G).2.1) (ho : pO G y.2.2 = false) : fu (fun y => pE G y.2.2) v F (unL G) (pE G y.2.2) = v y := by
  have hm : y ∈ unL G := List.mem_filter.mpr ⟨hy, by rw [ho]; rfl⟩
  obtain ⟨z, hz1, hz2, hz⟩ := fu_in (i := fun y : Nat × Nat × Nat × Bool => pE G y.2.2) (v := v) (c := pE G y.2.2) ⟨y, hm, rfl⟩
  rw [hz]
  obtain ⟨q1, q2⟩ := List.mem_filter.mp hz1
  rw [pas_inj hG q1 hy hz2 (by
    have q2 : (!pO G z.2.2) = true := q2
    rw [ho]
    simpa using q2)]
/-- at a cross: its passing over, its passing under -/
theorem xo (hG : vG G) {e : Nat} (he : e < gn G.1 G.2.1) (hx : crX G e) : ∃ y ∈ (aG G).2.1, pO G y.2.2 = true ∧ pE G y.2.2 = e ∧ oP G e = (y.1 : Int) ∧ oS G e = (y.2.1 : Int) ∧ oX G e = dX y.2.2.1 y.2.2.2 ∧ oY G e = dY y.2.2.1 y.2.2.2 := by
  obtain ⟨⟨y, h1, h2⟩, -⟩ := ov_mem hG he hx
  obtain ⟨h3, h4⟩ := List.mem_filter.mp h1
  subst h2
  exact ⟨y, h3, h4, rfl, fu_ov hG h3 h4, fu_ov hG h3 h4, fu_ov hG h3 h4, fu_ov hG h3 h4⟩
theorem xu (hG : vG G) {e : Nat} (he : e < gn G.1 G.2.1) (hx : crX G e) : ∃ y ∈ (aG G).2.1, pO G y.2.2 = false ∧ pE G y.2.2 = e ∧ uP G e = (y.1 : Int) ∧ uS G e = (y.2.1 : Int) ∧ uX G e = dX y.2.2.1 y.2.2.2 ∧ uY G e = dY y.2.2.1 y.2.2.2 := by
  obtain ⟨-, ⟨y, h1, h2⟩⟩ := ov_mem hG he hx
  obtain ⟨h3, h4⟩ := List.mem_filter.mp h1
  have h4 : pO G y.2.2 = false := by
    have h4 : (!pO G y.2.2) = true := h4
    simpa using h4
  subst h2
  exact ⟨y, h3, h4, rfl, fu_un hG h3 h4, fu_un hG h3 h4, fu_un hG h3 h4, fu_un hG h3 h4⟩
/-- at what is no cross nothing is passed -/
theorem xn (hG : vG G) {e : Nat} (hx : ¬ crX G e) : oP G e = -1 ∧ uP G e = -1 ∧ oS G e = -1 ∧ uS G e = -1 := by
  have h1 : ∀ y ∈ ovL G, pE G y.2.2 ≠ e := fun y hy q => hx (by
    have := (pas_cross hG (List.mem_filter.mp hy).1).2.2.2.1
    rw [q] at this
    exact this)
  have h2 : ∀ y ∈ unL G, pE G y.2.2 ≠ e := fun y hy q => hx (by
    have := (pas_cross hG (List.mem_filter.mp hy).1).2.2.2.1
    rw [q] at this
    exact this)
  exact ⟨fu_out h1, fu_out h2, fu_out h1, fu_out h2⟩
theorem str_at (hG : vG G) {i : Nat} (hi : i < nC G) : ∃ s, s < nS G ∧ bg G s ≤ i ∧ i < bg G (s + 1) := by
  have key : ∀ n, n ≤ nS G → i < bg G n → ∃ s, s < n ∧ bg G s ≤ i ∧ i < bg G (s + 1) := by
    intro n
    induction n with
    | zero => intro _ h; rw [bg_0 hG] at h; omega
    | succ n ih =>
      intro hn h
      rcases Nat.lt_or_ge i (bg G n) with h1 | h1
      · obtain ⟨s, s1, s2⟩ := ih (by omega) h1
        exact ⟨s, by omega, s2⟩
      · exact ⟨n, by omega, h1, h⟩
  exact key (nS G) (Nat.le_refl _) (by rw [bg_last hG]; exact hi)
theorem pas_strand (hG : vG G) {y : Nat × Nat × Nat × Bool} (hy : y ∈ (aG G).2.1) : y.2.1 < nS G ∧ cp G (bg G y.2.1) ≤ y.1 ∧ y.1 < cp G (bg G (y.2.1 + 1)) := by
  have hp := out_pok G (nC G)
  unfold pok at hp
  have hm : y.2.2 ∈ (out G (nC G)).2.1.map (fun y => y.2.2) := List.mem_map.mpr ⟨y, hy, rfl⟩
  rw [hp] at hm
  obtain ⟨h1, h2⟩ := List.mem_filter.mp hm
  obtain ⟨x, hx, e⟩ := List.mem_map.mp h1
  obtain ⟨i, hi, hix⟩ := List.getElem_of_mem (show x ∈ (aG G).1 from hx)
  have hi2 : (aG G).1[i]? = some x := by rw [List.getElem?_eq_getElem hi, hix]
  rw [← e] at h2
  have hz := pas_at hi2 h2
  have hzm : (cp G i, x.1, x.2.2) ∈ (aG G).2.1 := List.mem_of_getElem? hz
  have hyz := pas_inj hG hy hzm (by rw [← e]) (by rw [← e])
  rw [out_len hG] at hi
  obtain ⟨s, s1, s2, s3⟩ := str_at hG hi
  obtain ⟨x', hx'⟩ := bg_ent hG s1 s2 s3
  rw [hi2] at hx'
  have hxe := Option.some.inj hx'
  have hx1 : x.1 = s := by rw [hxe]
  rw [hyz]
  simp only
  rw [hx1]
  have c1 := cp_mono (G := G) s2
  have c2 := cp_mono (G := G) (show i + 1 ≤ bg G (s + 1) by omega)
  have c3 := cp_succ hi2
  rw [h2, if_pos rfl] at c3
  exact ⟨s1, c1, by omega⟩
theorem pSt_y {y : Nat × Nat × Nat × Bool} (hy : y ∈ (aG G).2.1) : pSt G y.1 = (y.2.1 : Int) ∧ pEd G y.1 = (pE G y.2.2 : Int) ∧ pDx G y.1 = dX y.2.2.1 y.2.2.2 ∧ pDy G y.1 = dY y.2.2.1 y.2.2.2 ∧ pOv G y.1 = bb (pO G y.2.2) := by
  have h := (pas_idx hy).1
  exact ⟨lsF_in h, lsF_in h, lsF_in h, lsF_in h, lsF_in h⟩
theorem dXY_rg (c : Nat) (b : Bool) : -2 ≤ dX c b ∧ dX c b ≤ 2 ∧ -2 ≤ dY c b ∧ dY c b ≤ 2 := by
  have q1 : ∀ z, -1 ≤ sdX z ∧ sdX z ≤ 1 := fun z => by unfold sdX; split; omega; split <;> omega
  have q2 : ∀ z, -1 ≤ sdY z ∧ sdY z ≤ 1 := fun z => by unfold sdY; split; omega; split <;> omega
  unfold dX dY
  have a1 := q1 (exs c b)
  have a2 := q1 (exs c (!b))
  have a3 := q2 (exs c b)
  have a4 := q2 (exs c (!b))
  omega
end PS
/-- how many passings a strand has, and the first -/
def pf (G : GV) (s : Nat) : Nat := cp G (bg G s)
def pn (G : GV) (s : Nat) : Nat := cp G (bg G (s + 1)) - cp G (bg G s)
def ln (G : GV) (s : Nat) : Nat := bg G (s + 1) - bg G s
/-- 1 plus, -1 minus, 0 no cross -/
def sg (G : GV) (e : Nat) : Int := if G.2.2 e = 0 ∨ G.2.2 e = 1 then (if oY G e * uX G e - oX G e * uY G e ≤ 0 then -1 else 1) else 0
theorem pf_pn {G : GV} (hG : vG G) {s : Nat} (hs : s < nS G) : pf G s + pn G s = cp G (bg G (s + 1)) ∧ pf G s + pn G s ≤ nP G := by
  have h1 := cp_mono (G := G) (Nat.le_of_lt (bg_lt hG hs))
  have h2 := cp_le (G := G) (bg G (s + 1))
  unfold pf pn
  omega
section C2
variable {E : am_E} {k : Nat} {m : MM} {γ : GM} {t : am_H} {G : GV}
theorem S_strandAt {Q : Int → MM → GM → am_H → Prop} {z : Int} (c : Nat) (hT : TrOK m G) (hG : vG G) (hz : z = (c : Int)) (hc : c < nC G) (hQ : Q (tS G c) m γ t) : TI E (k + 1) 101 [.ref 10, .int (iI z)] m γ t Q := by
  have h64 := nC_le64 hG
  subst hz
  refine vc_X7_strandAt (by omega) (S_at 64 rfl rfl rfl (by decide) (by omega) (fun _ => ?_))
  rw [atn_in (by omega), (hT.1 c hc).1]
  exact hQ
theorem S_placeAt {Q : Int → MM → GM → am_H → Prop} {z : Int} (c : Nat) (hT : TrOK m G) (hG : vG G) (hz : z = (c : Int)) (hc : c < nC G) (hQ : Q (tP G c) m γ t) : TI E (k + 1) 102 [.ref 10, .int (iI z)] m γ t Q := by
  have h64 := nC_le64 hG
  subst hz
  refine vc_X7_placeAt (by omega) (S_at 64 rfl rfl rfl (by decide) (by omega) (fun _ => ?_))
  rw [atn_in (by omega), (hT.1 c hc).2.1]
  exact hQ
theorem tP_rg (hG : vG G) {c : Nat} (hc : c < nC G) : 0 ≤ tP G c ∧ 0 ≤ tS G c := by
  obtain ⟨x, hx1, hx2⟩ := out_all hG hc
  have h1 := fu_ent hG (v := fun x => (x.2.1 : Int)) (F := fun _ => 0) hx1
  have h2 := fu_ent hG (v := fun x => (x.1 : Int)) (F := fun _ => 0) hx1
  rw [hx2] at h1 h2
  unfold tP tS
  rw [h1, h2]
  omega
theorem S_paintAt {Q : Int → MM → GM → am_H → Prop} {z : Int} (c : Nat) (hT : TrOK m G) (hG : vG G) (hz : z = (c : Int)) (hc : c < nC G) (hQ : Q (tP G c % 2) m γ t) : TI E (k + 1) 103 [.ref 10, .int (iI z)] m γ t Q := by
  have h64 := nC_le64 hG
  have h0 := (tP_rg hG hc).1
  subst hz
  refine vc_X7_paintAt (by omega) (S_at 64 rfl rfl rfl (by decide) (by omega) (fun _ => ?_))
  rw [atn_in (by omega), (hT.1 c hc).2.1]
  exact ⟨h0, hQ⟩
theorem S_cornersOn {Q : Int → MM → GM → am_H → Prop} {z : Int} (s : Nat) (hT : TrOK m G) (hG : vG G) (hz : z = (s : Int)) (hs : s < nS G) (hQ : Q (ln G s : Int) m γ t) : TI E (k + 1) 105 [.ref 10, .int (iI z)] m γ t Q := by
  have h64 := nC_le64 hG
  have hn := nS_nC G
  subst hz
  have hb := bg_lt hG hs
  have hb2 := bg_le hG (show s + 1 ≤ nS G by omega)
  refine vc_X7_cornersOn (by omega) (S_at 65 rfl rfl rfl (by decide) (by omega) (fun _ => S_at 65 rfl rfl rfl (by decide) (by omega) (fun _ => ?_)))
  rw [show (s : Int) + 1 = ((s + 1 : Nat) : Int) by omega, atn_in (by omega), atn_in (by omega), (hT.2.1 (s + 1) (by omega)).1, (hT.2.1 s (by omega)).1, tB_bg (by omega) hG, tB_bg (by omega) hG]
  refine ⟨by omega, ?_⟩
  rw [show (bg G (s + 1) : Int) - (bg G s : Int) = (ln G s : Int) by unfold ln; omega]
  exact hQ
theorem S_cornerOn {Q : Int → MM → GM → am_H → Prop} {z i : Int} (s : Nat) (hT : TrOK m G) (hG : vG G) (hz : z = (s : Int)) (hs : s < nS G) (hi : rJ i) (q1 : 0 ≤ i ∧ i < ln G s → Q (tO G (bg G s + i.toNat)) m γ t) (q0 : ¬ (0 ≤ i ∧ i < ln G s) → Q (-1) m γ t) : TI E (k + 2) 106 [.ref 10, .int (iI z), .int (iI i)] m γ t Q := by
  have h64 := nC_le64 hG
  have hn := nS_nC G
  subst hz
  have hb := bg_lt hG hs
  have hb2 := bg_le hG (show s + 1 ≤ nS G by omega)
  refine vc_X7_cornerOn (by omega) hi ⟨fun c => q0 (by omega), fun c => S_cornersOn s hT hG rfl hs ⟨fun c2 => ?_, fun c2 => q0 (by omega)⟩⟩
  refine S_at 65 rfl rfl rfl (by decide) (by omega) (fun _ => ?_)
  rw [atn_in (by omega), (hT.2.1 s (by omega)).1, tB_bg (by omega) hG]
  have hl : ln G s = bg G (s + 1) - bg G s := rfl
  refine S_at 64 rfl rfl rfl (by decide) (by omega) (fun _ => ?_)
  rw [show (bg G s : Int) + i = ((bg G s + i.toNat : Nat) : Int) by omega, atn_in (by omega), (hT.1 _ (by omega)).2.2.2]
  exact q1 (by omega)
theorem S_passesOn {Q : Int → MM → GM → am_H → Prop} {z : Int} (s : Nat) (hT : TrOK m G) (hG : vG G) (hz : z = (s : Int)) (hs : s < nS G) (hQ : Q (pn G s : Int) m γ t) : TI E (k + 1) 107 [.ref 10, .int (iI z)] m γ t Q := by
  have h64 := nC_le64 hG
  have hn := nS_nC G
  have hP := nP_le hG
  subst hz
  have hb := pf_pn hG hs
  refine vc_X7_passesOn (by omega) (S_at 65 rfl rfl rfl (by decide) (by omega) (fun _ => S_at 65 rfl rfl rfl (by decide) (by omega) (fun _ => ?_)))
  rw [show (s : Int) + 1 = ((s + 1 : Nat) : Int) by omega, atn_in (by omega), atn_in (by omega), (hT.2.1 (s + 1) (by omega)).2, (hT.2.1 s (by omega)).2, pB_cp hG (by omega), pB_cp hG (by omega)]
  have e1 : pf G s = cp G (bg G s) := rfl
  refine ⟨by omega, ?_⟩
  rw [show (cp G (bg G (s + 1)) : Int) - (cp G (bg G s) : Int) = (pn G s : Int) by omega]
  exact hQ
theorem S_edgePassed {Q : Int → MM → GM → am_H → Prop} {z i : Int} (s : Nat) (hT : TrOK m G) (hG : vG G) (hz : z = (s : Int)) (hs : s < nS G) (hi : rJ i) (q1 : 0 ≤ i ∧ i < pn G s → Q (pEd G (pf G s + i.toNat)) m γ t) (q0 : ¬ (0 ≤ i ∧ i < pn G s) → Q (-1) m γ t) : TI E (k + 2) 108 [.ref 10, .int (iI z), .int (iI i)] m γ t Q := by
  have h64 := nC_le64 hG
  have hn := nS_nC G
  have hP := nP_le hG
  subst hz
  have hb := pf_pn hG hs
  refine vc_X7_edgePassed (by omega) hi ⟨fun c => q0 (by omega), fun c => S_passesOn s hT hG rfl hs ⟨fun c2 => ?_, fun c2 => q0 (by omega)⟩⟩
  refine S_at 65 rfl rfl rfl (by decide) (by omega) (fun _ => ?_)
  rw [atn_in (by omega), (hT.2.1 s (by omega)).2, pB_cp hG (by omega)]
  have e1 : pf G s = cp G (bg G s) := rfl
  refine S_at 48 rfl rfl rfl (by decide) (by omega) (fun _ => ?_)
  rw [← e1, show (pf G s : Int) + i = ((pf G s + i.toNat : Nat) : Int) by omega, atn_in (by omega), (hT.2.2.1 _ (by omega)).1]
  exact q1 (by omega)
theorem oP_iff (hG : vG G) {j : Nat} (hj : j < nP G) : oP G (pEd G j).toNat = (j : Int) ↔ pOv G j = 1 := by
  obtain ⟨y, hy, hyj, -⟩ := pas_get hj
  subst hyj
  obtain ⟨a1, a2, a3, a4, a5⟩ := pSt_y hy
  obtain ⟨p1, p2, p3, p4, p5⟩ := pas_cross hG hy
  rw [a2, a5, Int.toNat_natCast]
  cases ho : pO G y.2.2 with
  | true =>
    have : oP G (pE G y.2.2) = (y.1 : Int) := fu_ov hG hy ho
    rw [this]
    exact ⟨fun _ => rfl, fun _ => rfl⟩
  | false =>
    obtain ⟨z, hz, hzo, hze, hzP, -⟩ := xo hG p3 p4
    rw [hzP]
    constructor
    · intro h
      have h1 : z.1 = y.1 := by omega
      have e1 := (pas_idx hz).1
      have e2 := (pas_idx hy).1
      rw [h1, e2] at e1
      have := Option.some.inj e1
      rw [← this, ho] at hzo
      cases hzo
    · intro h
      simp [bb] at h
theorem S_isOverAt {Q : Int → MM → GM → am_H → Prop} {z i : Int} (s : Nat) (hT : TrOK m G) (hG : vG G) (hz : z = (s : Int)) (hs : s < nS G) (hi : 0 ≤ i ∧ i < pn G s) (q1 : pOv G (pf G s + i.toNat) = 1 → Q 1 m γ t) (q0 : pOv G (pf G s + i.toNat) = 0 → Q 0 m γ t) : TI E (k + 3) 109 [.ref 10, .int (iI z), .int (iI i)] m γ t Q := by
  have h64 := nC_le64 hG
  have hn := nS_nC G
  have hP := nP_le hG
  subst hz
  have hb := pf_pn hG hs
  have hgn := gn_le _ hG.1.le.1 _ hG.1.le.2
  have hj : pf G s + i.toNat < nP G := by omega
  obtain ⟨y, hy, hyj, -⟩ := pas_get hj
  have a2 := (pSt_y hy).2.1
  have a5 := (pSt_y hy).2.2.2.2
  have p3 := (pas_cross hG hy).2.2.1
  have hiff := oP_iff hG hj
  rw [hyj] at a2 a5
  refine vc_X7_isOverAt (by omega) (by omega) (S_edgePassed s hT hG rfl hs (by omega) (fun _ => ?_) (fun c => absurd hi c))
  rw [a2] at hiff ⊢
  refine S_at 24 rfl rfl rfl (by decide) (by omega) (fun _ => S_at 65 rfl rfl rfl (by decide) (by omega) (fun _ => ?_))
  rw [atn_in (by omega), atn_in (by omega), (hT.2.2.2.1 _ p3).1, (hT.2.1 s (by omega)).2, pB_cp hG (by omega)]
  have e1 : pf G s = cp G (bg G s) := rfl
  rw [Int.toNat_natCast] at hiff
  refine ⟨by omega, fun c => q1 (hiff.mp (by omega)), fun c => q0 ?_⟩
  have hn1 : ¬ pOv G (pf G s + i.toNat) = 1 := fun h => c (by have := hiff.mpr h; omega)
  rw [a5] at hn1 ⊢
  cases ho : pO G y.2.2 with
  | true => rw [ho] at hn1; exact absurd rfl hn1
  | false => rfl
theorem S_overStrand {Q : Int → MM → GM → am_H → Prop} {z : Int} (e : Nat) (hT : TrOK m G) (hG : vG G) (hz : z = (e : Int)) (he : e < gn G.1 G.2.1) (hQ : Q (oS G e) m γ t) : TI E (k + 1) 110 [.ref 10, .int (iI z)] m γ t Q := by
  have hgn := gn_le _ hG.1.le.1 _ hG.1.le.2
  have hP := nP_le hG
  subst hz
  refine vc_X7_overStrand (by omega) (S_at 24 rfl rfl rfl (by decide) (by omega) (fun hr => ?_))
  rw [atn_in (by omega), (hT.2.2.2.1 e he).1] at hr ⊢
  refine S_at 48 rfl rfl rfl (by decide) hr (fun _ => ?_)
  by_cases hx : crX G e
  · obtain ⟨y, hy, -, -, h1, h2, -⟩ := xo hG he hx
    have hl := (pas_idx hy).2
    rw [h1, atn_in (by omega), (hT.2.2.1 _ hl).2.1, (pSt_y hy).1, ← h2]
    exact hQ
  · obtain ⟨h1, h2, h3, h4⟩ := xn hG hx
    rw [h1, atn_out (by omega), ← h3]
    exact hQ
theorem S_underStrand {Q : Int → MM → GM → am_H → Prop} {z : Int} (e : Nat) (hT : TrOK m G) (hG : vG G) (hz : z = (e : Int)) (he : e < gn G.1 G.2.1) (hQ : Q (uS G e) m γ t) : TI E (k + 1) 111 [.ref 10, .int (iI z)] m γ t Q := by
  have hgn := gn_le _ hG.1.le.1 _ hG.1.le.2
  have hP := nP_le hG
  subst hz
  refine vc_X7_underStrand (by omega) (S_at 24 rfl rfl rfl (by decide) (by omega) (fun hr => ?_))
  rw [atn_in (by omega), (hT.2.2.2.1 e he).2] at hr ⊢
  refine S_at 48 rfl rfl rfl (by decide) hr (fun _ => ?_)
  by_cases hx : crX G e
  · obtain ⟨y, hy, -, -, h1, h2, -⟩ := xu hG he hx
    have hl := (pas_idx hy).2
    rw [h1, atn_in (by omega), (hT.2.2.1 _ hl).2.1, (pSt_y hy).1, ← h2]
    exact hQ
  · obtain ⟨h1, h2, h3, h4⟩ := xn hG hx
    rw [h2, atn_out (by omega), ← h4]
    exact hQ
/-- the strand that crosses itself there, or -1 -/
def own (G : GV) (e : Nat) : Int := if oS G e = uS G e then oS G e else -1
theorem S_ownerOf {Q : Int → MM → GM → am_H → Prop} {z : Int} (e : Nat) (hT : TrOK m G) (hG : vG G) (hz : z = (e : Int)) (he : e < gn G.1 G.2.1) (hQ : Q (own G e) m γ t) : TI E (k + 2) 112 [.ref 10, .int (iI z)] m γ t Q := by
  have hgn := gn_le _ hG.1.le.1 _ hG.1.le.2
  unfold own at hQ
  refine vc_X7_ownerOf (by omega) (S_overStrand e hT hG hz he (S_underStrand e hT hG hz he ⟨fun c => ?_, fun c => ?_⟩))
  · rw [if_pos c] at hQ
    exact hQ
  · rw [if_neg c] at hQ
    exact hQ
theorem S_signOf {Q : Int → MM → GM → am_H → Prop} {z : Int} (e : Nat) (hT : TrOK m G) (hG : vG G) (hγ : γ 11 = G) (hz : z = (e : Int)) (he : e < gn G.1 G.2.1) (hQ : Q (sg G e) m γ t) : TI E (k + 2) 114 [.ref 10, .int (iI z)] m γ t Q := by
  have hgn := gn_le _ hG.1.le.1 _ hG.1.le.2
  have hP := nP_le hG
  subst hz
  unfold sg at hQ
  refine vc_X7_signOf (by omega) (S_isCrossG e (gi rfl) rfl (by rw [hγ]; exact he) (fun c => b1 ?_) (fun c => b0 ?_))
  · rw [hγ] at c
    rw [if_pos c] at hQ
    obtain ⟨y, hy, -, -, h1, h2, h3, h4⟩ := xo hG he c
    obtain ⟨y', hy', -, -, h1', h2', h3', h4'⟩ := xu hG he c
    have hl := (pas_idx hy).2
    have hl' := (pas_idx hy').2
    have r1 := dXY_rg y.2.2.1 y.2.2.2
    have r2 := dXY_rg y'.2.2.1 y'.2.2.2
    refine S_at 24 rfl rfl rfl (by decide) (by omega) (fun _ => S_at 24 rfl rfl rfl (by decide) (by omega) (fun _ => ?_))
    rw [atn_in (by omega), atn_in (by omega), (hT.2.2.2.1 e he).1, (hT.2.2.2.1 e he).2, h1, h1']
    refine S_at 48 rfl rfl rfl (by decide) (by omega) (fun _ => S_at 48 rfl rfl rfl (by decide) (by omega) (fun _ => S_at 48 rfl rfl rfl (by decide) (by omega) (fun _ => S_at 48 rfl rfl rfl (by decide) (by omega) (fun _ => ?_))))
    rw [atn_in (by omega), atn_in (by omega), atn_in (by omega), atn_in (by omega), (hT.2.2.1 _ hl).2.2.1, (hT.2.2.1 _ hl).2.2.2, (hT.2.2.1 _ hl').2.2.1, (hT.2.2.1 _ hl').2.2.2, (pSt_y hy).2.2.1, (pSt_y hy).2.2.2.1, (pSt_y hy').2.2.1, (pSt_y hy').2.2.2.1, ← h3, ← h4, ← h3', ← h4']
    rw [← h3, ← h4] at r1
    rw [← h3', ← h4'] at r2
    have mulb : ∀ a b : Int, -2 ≤ a → a ≤ 2 → -2 ≤ b → b ≤ 2 → -4 ≤ a * b ∧ a * b ≤ 4 := by
      intro a b a1 a2 b1 b2
      have ha : a = -2 ∨ a = -1 ∨ a = 0 ∨ a = 1 ∨ a = 2 := by omega
      rcases ha with rfl | rfl | rfl | rfl | rfl <;> omega
    have m1 := mulb (oY G e) (uX G e) (by omega) (by omega) (by omega) (by omega)
    have m2 := mulb (oX G e) (uY G e) (by omega) (by omega) (by omega) (by omega)
    refine ⟨by omega, fun c1 => ?_, fun c1 => ?_⟩
    · rw [if_pos c1] at hQ
      exact hQ
    · rw [if_neg c1] at hQ
      exact hQ
  · rw [hγ] at c
    rw [if_neg c] at hQ
    exact hQ
end C2
