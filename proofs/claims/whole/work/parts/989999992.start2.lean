set_option maxHeartbeats 1000000 in
/-- the law, if the small machine says so of the two values that can be -/
theorem am_start2 {p : Program} {e : Env} {s : State} {m : MethodId} {below : List Frame} {meth : Method} {c : Code} (l : Launch) {b L : Nat} {xs : Nat → Int32} (hL : L ≤ 3072) (C0 : lw_At p s m meth c b L xs)
    (hp : ∀ v, (v = .null ∨ v = .ref 1003000) → ∃ n h', am_exec ((L, xs), v) n 40 322 0 (am_entry [.ref 1002000] 4) [] [] = some (some (.int 1), h') ∧ h'.length ≤ 600000 ∧ am_sz h' ≤ 7302250) :
    W p l e room_1 s m #[Value.ref b] below meth c s.heap [] 0 0 (lw_Z below #[Value.ref b] s) (entryFrame m ([Value.ref b] : List Value).toArray 4) := by
  obtain ⟨hx, hb, hr, hml, hown, hts, hX, hbl, hlocks, hgv⟩ := C0
  have hfl : ∀ w ∈ am_flat, w.before #[Value.ref b] s = true := flat_of_before _ hgv
  have htb : ∀ w ∈ am_tb, w.before #[Value.ref b] s = true := fun w hw => hts w (List.mem_filter.mp hw).1
  have hA : ∀ q : Nat, s.heap.size ≤ q → (fun q : Nat => s.heap.size ≤ q) q := fun _ h => h
  have hA' : ∀ a : Nat, a < s.heap.size → ¬ (fun q : Nat => s.heap.size ≤ q) a := fun a h => Nat.not_le.mpr h
  -- classes
  have hcl : ∀ ci : Nat, ∃ q : ClassId × (Nat → Nat), ∀ c, am_cls[ci]? = some c → u_Kn s c.1 c.2.1 c.2.2 q.1 q.2 := by
    intro ci
    cases hci : am_cls[ci]? with
    | none => exact ⟨(0, fun _ => 0), fun c h => by cases h⟩
    | some c =>
      obtain ⟨cC, iS, hK⟩ := u_known (C := c.1) (T := c.2.1) (N := c.2.2) (n := c.2.2) hts (fun w hw => (List.mem_filter.mp (am_lay_ok hci w hw)).1) (htb _ (am_inst hci))
      exact ⟨(cC, iS), fun c' h' => by cases h'; exact hK⟩
  obtain ⟨dd, hdd⟩ := Classical.axiomOfChoice hcl
  -- array classes
  have hao : va_AO RX3 s := va_AO.of (hts (.arrayOver (.object RX3)) (by decide +kernel))
  have hai : am_AOA .int s := hts (.arrayOver (.array .int)) (by decide +kernel)
  have hal : am_AOA .long s := hts (.arrayOver (.array .long)) (by decide +kernel)
  have hprim : ∀ t ∈ [FieldType.int, .long, .byte, .boolean], ∃ cA : ClassId, ArrOfT s cA t ∧ s.vm.findClass ("[" ++ t.toString) = some cA := by
    intro t ht
    obtain ⟨cA, k, comp, h1, h2, h3⟩ := Cond.arrayClass_spec (htb _ (am_arr_ok t ht))
    exact ⟨cA, am_arrOf h2 h3, h1⟩
  have hks : ∀ t : FieldType, ∃ cA : ClassId, t ∈ am_kt → ArrOfT s cA t ∧ va_RA s cA t := by
    intro t
    by_cases ht : t ∈ am_kt
    · have ht2 : t = .int ∨ t = .long ∨ t = .byte ∨ t = .boolean ∨ t = .object RX3 ∨ t = .array .int ∨ t = .array .long := by simpa [am_kt] using ht
      rcases ht2 with rfl | rfl | rfl | rfl | rfl | rfl | rfl
      · obtain ⟨cA, h1, h2⟩ := hprim .int (by decide); exact ⟨cA, fun _ => ⟨h1, h2⟩⟩
      · obtain ⟨cA, h1, h2⟩ := hprim .long (by decide); exact ⟨cA, fun _ => ⟨h1, h2⟩⟩
      · obtain ⟨cA, h1, h2⟩ := hprim .byte (by decide); exact ⟨cA, fun _ => ⟨h1, h2⟩⟩
      · obtain ⟨cA, h1, h2⟩ := hprim .boolean (by decide); exact ⟨cA, fun _ => ⟨h1, h2⟩⟩
      · obtain ⟨comp, cA, k, h1, -, h3, h4, h5⟩ := Cond.arrayOver_spec hao
        exact ⟨cA, fun _ => ⟨am_arrOf h3 h4, k, comp, h3, h4, h1, h5⟩⟩
      · obtain ⟨comp, cA, k, h1, h3, h4, h5⟩ := am_AOA_spec hai
        exact ⟨cA, fun _ => ⟨am_arrOf h3 h4, h5⟩⟩
      · obtain ⟨comp, cA, k, h1, h3, h4, h5⟩ := am_AOA_spec hal
        exact ⟨cA, fun _ => ⟨am_arrOf h3 h4, h5⟩⟩
    · exact ⟨0, fun h => absurd h ht⟩
  obtain ⟨κ, hκ⟩ := Classical.axiomOfChoice hks
  have hK : va_K (fun k => (dd k).1, fun k => (dd k).2) am_cls (am_ks κ) s := by
    refine ⟨fun ci c h => hdd ci c h, fun k q hq => ?_⟩
    rw [am_ks, List.getElem?_map] at hq
    cases ht : am_kt[k]? with
    | none => rw [ht] at hq; cases hq
    | some t =>
      rw [ht] at hq
      cases hq
      exact hκ t (List.mem_of_getElem? ht)
  -- texts
  have hstr : ∀ k : Nat, ∃ ab : Nat × Nat, ∀ q, am_txt[k]? = some q → va_O "java/lang/String" ab.1 (fun q : Nat => s.heap.size ≤ q) s s.heap ∧ va_OF "java/lang/String" "coder" "B" (.int 0) ab.1 (fun q : Nat => s.heap.size ≤ q) s s.heap ∧ va_OF "java/lang/String" "value" "[B" (.ref ab.2) ab.1 (fun q : Nat => s.heap.size ≤ q) s s.heap ∧ va_T .byte ab.2 q.2.2.2.1.length (fun j => .int (q.2.2.2.1.getD j 0)) (fun q : Nat => s.heap.size ≤ q) s s.heap ∧ vk_R (am_own.getD q.1 "") q.2.1 q.2.2.1 ab.1 s := by
    intro k
    cases hk : am_txt[k]? with
    | none => exact ⟨(0, 0), fun q h => by cases h⟩
    | some q =>
      obtain ⟨a, b, h⟩ := am_one_str hts hfl hk hA'
      exact ⟨(a, b), fun q' h' => by cases h'; exact h⟩
  obtain ⟨ab, hab⟩ := Classical.axiomOfChoice hstr
  obtain ⟨tx, hTx, hZx⟩ := am_static_row (n := "SIDE_X") (f := am_sx) hts hfl hA' (by decide +kernel) (by decide +kernel) (by decide +kernel) (by decide +kernel) (by decide +kernel)
  obtain ⟨ty, hTy, hZy⟩ := am_static_row (n := "SIDE_Y") (f := am_sy) hts hfl hA' (by decide +kernel) (by decide +kernel) (by decide +kernel) (by decide +kernel) (by decide +kernel)
  have hcomp : va_Z "java/lang/String" "COMPACT_STRINGS" "Z" (.int 1) (fun q : Nat => s.heap.size ≤ q) s s.heap := va_Zof (hts _ (by decide +kernel)) (hts _ (by decide +kernel)) (va_eqt (hfl (.eq (.static "java/lang/String" "COMPACT_STRINGS" "Z") (.int 1)) (by decide +kernel))) hA'
  have hfm : va_Zq "jdk/internal/util/Preconditions" "SIOOBE_FORMATTER" "Ljava/util/function/BiFunction;" (fun q : Nat => s.heap.size ≤ q) s s.heap := va_Zqof (hts _ (by decide +kernel)) (hts _ (by decide +kernel)) (hfl _ (by decide +kernel)) hA'
  have hscr : va_T .int b L (fun j => .int (xs j)) (fun q : Nat => s.heap.size ≤ q) s s.heap := by
    obtain ⟨scr, g1, g2, g3, g4, g5⟩ := hX
    exact ⟨scr, g1, g2, g3, by rw [g4]; exact Nat.le_refl _, by rw [g4], g5, Nat.not_le.mpr hbl⟩
  obtain ⟨fv, ft, ⟨hvok, hvv⟩, hfv⟩ : ∃ (fv : Value) (ft : Nat), (am_vok 0 fv ∧ (fv = .null ∨ fv = .ref 1003000)) ∧ ∀ γ : Nat → Nat, γ 1003000 = ft → va_Z "jdk/internal/util/Preconditions" "SIOOBE_FORMATTER" "Ljava/util/function/BiFunction;" (am_tv γ fv) (fun q : Nat => s.heap.size ≤ q) s s.heap := by
    rcases hfm with h | ⟨t, h⟩
    · exact ⟨.null, 0, ⟨trivial, Or.inl rfl⟩, fun γ _ => h⟩
    · exact ⟨.ref 1003000, t, ⟨Or.inr (by decide), Or.inr rfl⟩, fun γ hγ => by show va_Z _ _ _ (.ref (γ 1003000)) _ _ _; rw [hγ]; exact h⟩
  obtain ⟨γ, hg1, hg2, hgx, hgy, hgb, hgf⟩ : ∃ γ : Nat → Nat, (∀ k, k < 27 → γ (1000000 + 2 * k) = (ab k).1) ∧ (∀ k, k < 27 → γ (1000000 + 2 * k + 1) = (ab k).2) ∧ γ 1001000 = tx ∧ γ 1001001 = ty ∧ γ 1002000 = b ∧ γ 1003000 = ft := by
    refine ⟨fun a => if a < 1000100 then (if a % 2 = 0 then (ab ((a - 1000000) / 2)).1 else (ab ((a - 1000000) / 2)).2) else if a = 1001000 then tx else if a = 1001001 then ty else if a = 1002000 then b else ft, fun k hk => ?_, fun k hk => ?_, rfl, rfl, rfl, rfl⟩
    · show (if 1000000 + 2 * k < 1000100 then _ else _) = _
      rw [if_pos (by omega), if_pos (by omega), show (1000000 + 2 * k - 1000000) / 2 = k by omega]
    · show (if 1000000 + 2 * k + 1 < 1000100 then _ else _) = _
      rw [if_pos (by omega), if_neg (by omega), show (1000000 + 2 * k + 1 - 1000000) / 2 = k by omega]
  obtain ⟨n, h', hex, hc1, hc2⟩ := hp fv hvv
  have hC : am_Cs ((L, xs), fv) γ (fun q : Nat => s.heap.size ≤ q) s s.heap := by
    refine ⟨fun k q hq => ?_, by rw [hgx]; exact hTx, by rw [hgy]; exact hTy, by rw [hgb]; exact hscr, hcomp, hfv γ hgf, by rw [hgx]; exact hZx, by rw [hgy]; exact hZy⟩
    have hl := (List.getElem?_eq_some_iff.mp hq).1
    have hl : k < 27 := by simpa [am_txt] using hl
    rw [hg1 k hl, hg2 k hl]
    exact hab k q hq
  have hWd : am_Wd s := ⟨fun o idx q hq h1 => va_Nw.of rfl (hts _ (am_nest_in hq h1)), hao, hai, hal⟩
  have hF : am_Fx p s m #[Value.ref b] meth c 322 ((L, xs), fv) γ κ (fun k => (dd k).1, fun k => (dd k).2) (fun q : Nat => s.heap.size ≤ q) :=
    ⟨hx, hb, hown, htb, hA, hK, hC, fun z => absurd z (by decide +kernel), hvok, hml, hWd⟩
  have hI : am_I s γ κ (fun k => (dd k).1, fun k => (dd k).2) (fun q : Nat => s.heap.size ≤ q) 4 γ s.heap [] [] (am_entry [.ref 1002000] 4) ((lg_sl (([Value.ref 1002000] : List Value).map (am_tv γ)) ++ List.replicate (4 - (lg_sl (([Value.ref 1002000] : List Value).map (am_tv γ))).length) Slot.unset).toArray) [] := by
    refine ⟨fun k q h => by simp [am_w] at h, ⟨fun i j p q h => by simp [am_w] at h, fun k q h => by simp [am_w] at h⟩, va_S.rf, am_entry_lr (by decide), (fun _ hc => nomatch hc), am_entry_ok (fun v hv => ?_), (fun _ hv => nomatch hv), fun a _ => rfl⟩
    rw [List.mem_singleton.mp hv]
    exact Or.inr (by decide)
  have hgo := am_run l n ((L, xs), fv) γ κ (fun k => (dd k).1, fun k => (dd k).2) p e room_1 s m #[Value.ref b] below meth c (lw_Z below #[Value.ref b] s) 322 (fun q : Nat => s.heap.size ≤ q) 4 γ s.heap [] 0 0 40 0 _ _ [] [] (some (.int 1)) h' hex hF hI (by decide +kernel) (by decide) (by decide) (by show 0 + (h'.length - 0) ≤ 600000; omega) (by show 0 + (am_sz h' - 0) ≤ 7302250; omega) (fun ρ' H' locs' L' ls' pc' i st' hx' hI' hcd hrt => ?_)
  · rw [lg_entry_eq]
    have e1 : ([Value.ref 1002000] : List Value).map (am_tv γ) = [.ref b] := congrArg (fun a => [Value.ref a]) hgb
    rw [e1] at hgo
    exact hgo
  · obtain ⟨len, hd0, hlen⟩ := am_dec hcd
    refine va_forget (fun q hq => hI'.2.2.1.2.2 q hq) ?_
    refine W.widen (k := 600000) (n := 7302250) (by show 0 + (h'.length - 0) ≤ 600000; omega) (by show 0 + (am_sz h' - 0) ≤ 7302250; omega) ?_
    unfold am_rt at hrt
    split at hrt
    · next v =>
      split at hrt
      · split at hrt
        · cases hrt
          rcases hlen with rfl | z
          · exact lw_ret hx hb hr hlocks hd0
          · cases z
        · cases hrt
      · cases hrt
    · split at hrt <;> cases hrt
    · split at hrt <;> cases hrt
    · split at hrt <;> cases hrt
    · split at hrt <;> cases hrt
    · cases hrt
