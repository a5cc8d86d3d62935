/-! ===== the strands' lists: where strands begin, which passing is which ===== -/
def isCx (G : GV) (x : Nat × Nat × Nat × Bool) : Bool := isC G x.2.2
def pk4 (G : GV) (A : AS) : Prop := A.2.1 = ((A.1.filter (isCx G)).zipIdx).map (fun y => (y.2, y.1.1, y.1.2.2))
theorem nt_pk4 {G : GV} {A : AS} (h : pk4 G A) (i : Nat) (x : Nat × Bool) : pk4 G (nt G A i x) := by
  have hl : A.2.1.length = (A.1.filter (isCx G)).length := by
    unfold pk4 at h
    rw [h, List.length_map, List.length_zipIdx]
  unfold pk4 nt
  simp only
  rw [List.filter_append]
  cases hc : isC G x with
  | true =>
    have h1 : List.filter (isCx G) [(A.2.2.1.length - 1, i, x)] = [(A.2.2.1.length - 1, i, x)] := by simp [isCx, hc]
    rw [h1, List.zipIdx_append, List.map_append, if_pos rfl]
    unfold pk4 at h
    rw [← h, hl]
    simp
  | false =>
    have h1 : List.filter (isCx G) [(A.2.2.1.length - 1, i, x)] = [] := by simp [isCx, hc]
    rw [h1, List.append_nil]
    exact h
theorem inn_pk4 {G : GV} {A : AS} (h : pk4 G A) (c : Nat) : ∀ i, pk4 G (inn G A c i)
  | 0 => h
  | i + 1 => nt_pk4 (inn_pk4 h c i) i _
theorem out_pk4 (G : GV) : ∀ c, pk4 G (out G c)
  | 0 => rfl
  | c + 1 => by
    show pk4 G (if visb (out G c) c then out G c else fol G (out G c) c)
    split
    · exact out_pk4 G c
    · exact inn_pk4 (show pk4 G (stt (out G c)) from out_pk4 G c) c _
def beL (A : AS) : List Nat := A.2.2.1 ++ [A.1.length]
def bi (A : AS) (s : Nat) : Nat := (beL A).getD s 0
def oInv (G : GV) (A : AS) : Prop := bi A 0 = 0 ∧ (∀ s, s < A.2.2.1.length → bi A s < bi A (s + 1) ∧ ∀ i, bi A s ≤ i → i < bi A (s + 1) → ∃ x, A.1[i]? = some (s, i - bi A s, x)) ∧
  A.2.2.2 = A.2.2.1.map (fun n => ((A.1.take n).filter (isCx G)).length) ∧ ∀ n ∈ A.2.2.1, n ≤ A.1.length
theorem bi_last (A : AS) : bi A A.2.2.1.length = A.1.length := by
  unfold bi beL
  rw [List.getD_eq_getElem?_getD, List.getElem?_append_right (Nat.le_refl _), Nat.sub_self]
  rfl
theorem fol_inv {G : GV} (hG : vG G) {A : AS} (h : oInv G A) (h4 : pk4 G A) {c : Nat} (hc : c < nC G) : oInv G (fol G A c) := by
  obtain ⟨h0, h1, h2, h3⟩ := h
  have e1 : (fol G A c).1 = A.1 ++ (List.range (len G c)).map (fun j => (A.2.2.1.length, j, nxi G j (c, true))) := by
    unfold fol
    rw [(inn_l G (stt A) c _).1]
    simp [stt]
  have e2 : (fol G A c).2.2 = (A.2.2.1 ++ [A.1.length], A.2.2.2 ++ [A.2.1.length]) := by
    unfold fol
    rw [(inn_l G (stt A) c _).2]
    rfl
  have hlen : (fol G A c).1.length = A.1.length + len G c := by rw [e1]; simp
  have hb : beL (fol G A c) = beL A ++ [A.1.length + len G c] := by
    unfold beL
    rw [e2, hlen]
  have hbl : (beL A).length = A.2.2.1.length + 1 := by unfold beL; simp
  have b1 : ∀ s, s ≤ A.2.2.1.length → bi (fol G A c) s = bi A s := by
    intro s hs
    unfold bi
    rw [hb, List.getD_eq_getElem?_getD, List.getD_eq_getElem?_getD, List.getElem?_append_left (by omega)]
  have b2 : bi (fol G A c) (A.2.2.1.length + 1) = A.1.length + len G c := by
    unfold bi
    rw [hb, List.getD_eq_getElem?_getD, List.getElem?_append_right (by omega), hbl, Nat.sub_self]
    rfl
  have hl := (len_ok hG hc).1
  refine ⟨by rw [b1 0 (Nat.zero_le _)]; exact h0, ?_, ?_, ?_⟩
  · intro s hs
    rw [e2] at hs
    simp only [List.length_append, List.length_singleton] at hs
    rcases Nat.lt_or_ge s A.2.2.1.length with hs1 | hs1
    · rw [b1 s (by omega), b1 (s + 1) (by omega)]
      refine ⟨(h1 s hs1).1, fun i i1 i2 => ?_⟩
      obtain ⟨x, hx⟩ := (h1 s hs1).2 i i1 i2
      refine ⟨x, ?_⟩
      rw [e1, List.getElem?_append_left (List.getElem?_eq_some_iff.mp hx).1]
      exact hx
    · have hs2 : s = A.2.2.1.length := by omega
      subst hs2
      rw [b1 _ (Nat.le_refl _), b2, bi_last]
      refine ⟨by omega, fun i i1 i2 => ⟨nxi G (i - A.1.length) (c, true), ?_⟩⟩
      rw [e1, List.getElem?_append_right i1, List.getElem?_map, List.getElem?_range (by omega)]
      rfl
  · rw [e2]
    simp only [List.map_append, List.map_cons, List.map_nil]
    congr 1
    · rw [h2]
      refine List.map_congr_left (fun n hn => ?_)
      rw [e1, List.take_append_of_le_length (h3 n hn)]
    · rw [e1, List.take_left']
      · unfold pk4 at h4
        rw [h4, List.length_map, List.length_zipIdx]
      · rfl
  · intro n hn
    rw [e2] at hn
    rw [hlen]
    rcases List.mem_append.mp hn with hn | hn
    · have := h3 n hn
      omega
    · rw [List.mem_singleton.mp hn]
      omega
theorem out_inv {G : GV} (hG : vG G) : ∀ c, c ≤ nC G → oInv G (out G c)
  | 0, _ => ⟨rfl, fun s hs => absurd hs (Nat.not_lt_zero s), rfl, fun n hn => absurd hn (List.not_mem_nil)⟩
  | c + 1, hc => by
    show oInv G (if visb (out G c) c then out G c else fol G (out G c) c)
    split
    · exact out_inv hG c (by omega)
    · exact fol_inv hG (out_inv hG c (by omega)) (out_pk4 G c) (by omega)
/-- the strand's begin, as a number -/
def bg (G : GV) (s : Nat) : Nat := bi (aG G) s
/-- how many passings there are before the i-th corner -/
def cp (G : GV) (i : Nat) : Nat := (((aG G).1.take i).filter (isCx G)).length
section LS
variable {G : GV} (hG : vG G)
theorem tB_bg {s : Nat} (hs : s ≤ nS G) (hG : vG G) : tB G s = (bg G s : Int) := by
  unfold tB bg bi beL
  rw [← out_len hG]
  have hl : s < ((aG G).2.2.1 ++ [(aG G).1.length]).length := by rw [List.length_append, List.length_singleton]; unfold nS at hs; omega
  rw [lsF_in (List.getElem?_eq_getElem hl), List.getD_eq_getElem?_getD, List.getElem?_eq_getElem hl]
  rfl
theorem bg_0 (hG : vG G) : bg G 0 = 0 := (out_inv hG (nC G) (Nat.le_refl _)).1
theorem bg_last (hG : vG G) : bg G (nS G) = nC G := by
  unfold bg nS
  rw [bi_last, out_len hG]
theorem bg_lt (hG : vG G) {s : Nat} (hs : s < nS G) : bg G s < bg G (s + 1) := ((out_inv hG (nC G) (Nat.le_refl _)).2.1 s hs).1
theorem bg_mono (hG : vG G) {s s' : Nat} (h : s ≤ s') (h' : s' ≤ nS G) : bg G s ≤ bg G s' := by
  induction s' with
  | zero => rw [show s = 0 by omega]; exact Nat.le_refl _
  | succ n ih =>
    rcases Nat.lt_or_ge s (n + 1) with h1 | h1
    · have := ih (by omega) (by omega)
      have := bg_lt hG (show n < nS G by omega)
      omega
    · rw [show s = n + 1 by omega]
      exact Nat.le_refl _
theorem bg_le (hG : vG G) {s : Nat} (hs : s ≤ nS G) : bg G s ≤ nC G := by
  have := bg_mono hG hs (Nat.le_refl _)
  rw [bg_last hG] at this
  exact this
theorem bg_ent (hG : vG G) {s i : Nat} (hs : s < nS G) (h1 : bg G s ≤ i) (h2 : i < bg G (s + 1)) : ∃ x, (aG G).1[i]? = some (s, i - bg G s, x) := ((out_inv hG (nC G) (Nat.le_refl _)).2.1 s hs).2 i h1 h2
theorem cp_le (i : Nat) : cp G i ≤ nP G := by
  have h4 : nP G = ((aG G).1.filter (isCx G)).length := by
    have := out_pk4 G (nC G)
    unfold pk4 at this
    unfold nP aG
    rw [this, List.length_map, List.length_zipIdx]
  rw [h4]
  unfold cp
  exact ((List.take_sublist i (aG G).1).filter _).length_le
theorem cp_all (hG : vG G) : cp G (nC G) = nP G := by
  have := out_pk4 G (nC G)
  unfold pk4 at this
  unfold cp nP
  rw [List.take_of_length_le (by rw [out_len hG]; exact Nat.le_refl _)]
  unfold aG
  rw [this, List.length_map, List.length_zipIdx]
theorem pB_cp (hG : vG G) {s : Nat} (hs : s ≤ nS G) : pB G s = (cp G (bg G s) : Int) := by
  unfold pB
  have h3 := (out_inv hG (nC G) (Nat.le_refl _)).2.2.1
  have hb := out_beg G (nC G)
  rcases Nat.lt_or_ge s (nS G) with h1 | h1
  · have hl : s < ((aG G).2.2.2 ++ [nP G]).length := by
      rw [List.length_append, List.length_singleton]
      unfold nS aG at h1
      unfold aG
      omega
    rw [lsF_in (List.getElem?_eq_getElem hl)]
    congr 1
    have hl2 : s < (aG G).2.2.2.length := by unfold nS aG at h1; unfold aG; omega
    rw [List.getElem_append_left hl2]
    have e : (aG G).2.2.2[s]? = some (((aG G).1.take (bg G s)).filter (isCx G)).length := by
      show (out G (nC G)).2.2.2[s]? = _
      rw [h3, List.getElem?_map]
      have hl3 : s < (out G (nC G)).2.2.1.length := h1
      rw [List.getElem?_eq_getElem hl3]
      have e2 : bg G s = (out G (nC G)).2.2.1[s] := by
        unfold bg bi beL aG
        rw [List.getD_eq_getElem?_getD, List.getElem?_append_left hl3, List.getElem?_eq_getElem hl3]
        rfl
      rw [e2]
      rfl
    rw [List.getElem?_eq_getElem hl2] at e
    exact Option.some.inj e
  · have hs2 : s = nS G := by omega
    subst hs2
    have hl : ((aG G).2.2.2 ++ [nP G])[nS G]? = some (nP G) := by
      rw [List.getElem?_append_right (by unfold nS aG; omega)]
      unfold nS aG
      rw [hb, Nat.sub_self]
      rfl
    rw [lsF_in hl, bg_last hG, cp_all hG]
theorem cp_succ {i : Nat} {x : Nat × Nat × Nat × Bool} (h : (aG G).1[i]? = some x) : cp G (i + 1) = cp G i + (if isC G x.2.2 then 1 else 0) := by
  unfold cp
  rw [List.take_add_one, h, List.filter_append, List.length_append]
  congr 1
  cases hc : isC G x.2.2 <;> simp [isCx, hc]
/-- the passing that begins at a corner -/
theorem pas_at {i : Nat} {x : Nat × Nat × Nat × Bool} (h : (aG G).1[i]? = some x) (hc : isC G x.2.2 = true) : (aG G).2.1[cp G i]? = some (cp G i, x.1, x.2.2) := by
  have h4 := out_pk4 G (nC G)
  unfold pk4 at h4
  have h5 : ((aG G).1.filter (isCx G))[cp G i]? = some x := by
    have hs : (aG G).1 = (aG G).1.take i ++ (aG G).1.drop i := (List.take_append_drop i _).symm
    have hd : (aG G).1.drop i = x :: (aG G).1.drop (i + 1) := by
      have hl := (List.getElem?_eq_some_iff.mp h).1
      rw [List.drop_eq_getElem_cons hl]
      congr 1
      exact (List.getElem?_eq_some_iff.mp h).2
    have e : (aG G).1.filter (isCx G) = ((aG G).1.take i).filter (isCx G) ++ x :: ((aG G).1.drop (i + 1)).filter (isCx G) := by
      conv => lhs; rw [hs, hd]
      rw [List.filter_append, List.filter_cons_of_pos (show isCx G x = true from hc)]
    rw [e, List.getElem?_append_right (show cp G i ≥ _ from Nat.le_refl _), show cp G i - (((aG G).1.take i).filter (isCx G)).length = 0 from Nat.sub_self _]
    rfl
  show (out G (nC G)).2.1[cp G i]? = _
  rw [h4, List.getElem?_map, List.getElem?_zipIdx]
  show Option.map _ (Option.map _ (((aG G).1.filter (isCx G))[cp G i]?)) = _
  rw [h5]
  simp
theorem nP_le (hG : vG G) : nP G ≤ 48 := by
  have h24 := gn_le _ hG.1.le.1 _ hG.1.le.2
  have h3 := pok_len (out_pok G (nC G))
  have h4 := code_len hG (out_clo hG (nC G) (Nat.le_refl _)).1
  unfold nP aG
  omega
theorem nC_le64 (hG : vG G) : nC G ≤ 64 := by
  have := hG.1.le
  have h2 : G.1 * G.2.1 ≤ 4 * 4 := Nat.mul_le_mul this.1 this.2
  unfold nC
  omega
theorem nS_nC (G : GV) : nS G ≤ nC G := nS_le (nC G)
end LS
