theorem sumN_const1 : ∀ n : Nat, sumN (fun _ => 1) n = (n : Int)
  | 0 => rfl
  | n + 1 => by
    show sumN (fun _ => 1) n + 1 = _
    rw [sumN_const1 n]
    omega
theorem sumN_comm (f : Nat → Nat → Int) (n : Nat) : ∀ k, sumN (fun i => sumN (fun j => f i j) n) k = sumN (fun j => sumN (fun i => f i j) k) n
  | 0 => (sumN_zero n).symm
  | k + 1 => by
    show sumN (fun i => sumN (fun j => f i j) n) k + sumN (fun j => f k j) n = _
    rw [sumN_comm f n k, ← sumN_add]
    rfl
/-- as many labels as classes -/
theorem rp_cls {N S : Nat} {L : Nat → Nat} {T : Nat → Nat} (h1 : ∀ c, c < N → L c < N ∧ L (L c) = L c) (h2 : ∀ c, c < N → T c < S) (h3 : ∀ s, s < S → ∃ c, c < N ∧ T c = s) (h4 : ∀ c c', c < N → c' < N → (L c = L c' ↔ T c = T c')) : rpN L N = (S : Int) := by
  have e1 : rpN L N = sumN (fun c => sumN (fun s => if L c = c ∧ T c = s then 1 else 0) S) N := by
    refine sumN_congr (fun c hc => ?_)
    by_cases p : L c = c
    · rw [if_pos p, sumN_one (i := T c) (fun j hj => if_neg (fun z => hj z.2.symm)), if_pos (h2 c hc), if_pos ⟨p, rfl⟩]
    · rw [if_neg p, sumN_congr (g := fun _ => 0) (fun j _ => if_neg (fun z => p z.1)), sumN_zero]
  rw [e1, sumN_comm, ← sumN_const1 S]
  refine sumN_congr (fun s hs => ?_)
  obtain ⟨c, hc, hT⟩ := h3 s hs
  obtain ⟨l1, l2⟩ := h1 c hc
  have tl : T (L c) = s := by rw [← hT]; exact (h4 _ _ l1 hc).mp l2
  have key : ∀ j, j < N → ((L j = j ∧ T j = s) ↔ j = L c) := by
    intro j hj
    refine ⟨fun z => ?_, fun z => by rw [z]; exact ⟨l2, tl⟩⟩
    rw [← z.1]
    exact (h4 j c hj hc).mpr (z.2.trans hT.symm)
  rw [sumN_congr (g := fun j => if j = L c then 1 else 0) (fun j hj => ?_), sumN_one (i := L c) (fun j hj => if_neg hj), if_pos l1, if_pos rfl]
  by_cases p : j = L c
  · rw [if_pos p, if_pos ((key j hj).mpr p)]
  · rw [if_neg p, if_neg (fun z => p ((key j hj).mp z))]
