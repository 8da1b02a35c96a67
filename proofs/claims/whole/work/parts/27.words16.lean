/-! words of the sixteenth part: the reference's reaching sets, by walks -/
theorem waI_at (k : Nat) (r : Nat → Nat) : ∀ i x, waI k i r x = if x < i then r x ||| (if (r x).testBit k = true then r k else 0) else r x
  | 0, x => by rw [if_neg (by omega)]; rfl
  | i + 1, x => by
    have ek : waI k i r k = r k := by
      rw [waI_at k r i k]
      split
      · split
        · exact Nat.or_self _
        · exact Nat.or_zero _
      · rfl
    have ei : waI k i r i = r i := by rw [waI_at k r i i, if_neg (by omega)]
    show updN (waI k i r) i (waI k i r i ||| (if (waI k i r i).testBit k = true then waI k i r k else 0)) x = _
    simp only [updN]
    rw [ek, ei]
    by_cases e : x = i
    · rw [if_pos e, if_pos (show x < i + 1 by omega), e]
    · rw [if_neg e, waI_at k r i x]
      by_cases e2 : x < i
      · rw [if_pos e2, if_pos (show x < i + 1 by omega)]
      · rw [if_neg e2, if_neg (show ¬ x < i + 1 by omega)]
theorem waI_bit {n k : Nat} (r : Nat → Nat) {x : Nat} (hx : x < n) (j : Nat) : (waI k n r x).testBit j = true ↔ (r x).testBit j = true ∨ ((r x).testBit k = true ∧ (r k).testBit j = true) := by
  rw [waI_at, if_pos hx, Nat.testBit_or, Bool.or_eq_true]
  by_cases e : (r x).testBit k = true
  · rw [if_pos e]; simp only [e, true_and]
  · rw [if_neg e, Nat.zero_testBit]; simp [e]
theorem waF_inv {n : Nat} {m : Nat → Nat → Nat} {r : Nat → Nat} (h : ∀ i j, i < n → ((r i).testBit j = true ↔ j < n ∧ m i j ≠ 0)) : ∀ k, k ≤ n → (∀ i j, i < n → (waF n k r i).testBit j = true → ∃ b, wk n m (b + 1) i j) ∧ (∀ i j, i < n → (r i).testBit j = true → (waF n k r i).testBit j = true) ∧ (∀ t, t < k → ∀ i j, i < n → (waF n k r i).testBit t = true → (waF n k r t).testBit j = true → (waF n k r i).testBit j = true)
  | 0, _ => ⟨fun i j hi hb => by
      have := (h i j hi).mp hb
      exact ⟨0, wk_1.mpr ⟨hi, this⟩⟩, fun i j hi hb => hb, fun t ht => absurd ht (Nat.not_lt_zero _)⟩
  | k + 1, hk => by
    obtain ⟨a1, a2, a3⟩ := waF_inv h k (by omega)
    have hb : ∀ x, x < n → ∀ j, (waF n (k + 1) r x).testBit j = true ↔ (waF n k r x).testBit j = true ∨ ((waF n k r x).testBit k = true ∧ (waF n k r k).testBit j = true) := fun x hx j => waI_bit (waF n k r) hx j
    have hlt : ∀ i j, i < n → (waF n k r i).testBit j = true → j < n := fun i j hi hh => by
      obtain ⟨b, w⟩ := a1 i j hi hh
      exact (wk_in w).2
    refine ⟨fun i j hi hh => ?_, fun i j hi hh => (hb i hi j).mpr (Or.inl (a2 i j hi hh)), fun t ht i j hi h1 h2 => ?_⟩
    · rcases (hb i hi j).mp hh with q | ⟨q1, q2⟩
      · exact a1 i j hi q
      · obtain ⟨b, w⟩ := a1 i k hi q1
        obtain ⟨b', w'⟩ := a1 k j (by omega) q2
        exact ⟨b + 1 + b', by have := wk_cat w w'; rw [← Nat.add_assoc] at this; exact this⟩
    · have h1' := (hb i hi t).mp h1
      have h2' := (hb t (by omega) j).mp h2
      rw [hb i hi j]
      by_cases e : t = k
      · subst e
        rcases h1' with q | ⟨q, _⟩ <;> rcases h2' with p | ⟨_, p⟩ <;> exact Or.inr ⟨q, p⟩
      · have htk : t < k := by omega
        rcases h1' with q | ⟨q1, q2⟩ <;> rcases h2' with p | ⟨p1, p2⟩
        · exact Or.inl (a3 t htk i j hi q p)
        · exact Or.inr ⟨a3 t htk i k hi q p1, p2⟩
        · exact Or.inr ⟨q1, a3 t htk k j (by omega) q2 p⟩
        · exact Or.inr ⟨q1, p2⟩
theorem waF_bit {n : Nat} {m : Nat → Nat → Nat} {r : Nat → Nat} (h : ∀ i j, i < n → ((r i).testBit j = true ↔ j < n ∧ m i j ≠ 0)) {i j : Nat} (hi : i < n) : (waF n n r i).testBit j = true ↔ ∃ b, wk n m (b + 1) i j := by
  obtain ⟨a1, a2, a3⟩ := waF_inv h n (Nat.le_refl n)
  refine ⟨a1 i j hi, ?_⟩
  rintro ⟨b, w⟩
  induction b generalizing j with
  | zero => exact a2 i j hi ((h i j hi).mpr (wk_1.mp w).2)
  | succ b ih =>
    obtain ⟨t, ht, w1, hj, hm⟩ := wk_s.mp w
    exact a3 t ht i j hi (ih w1) (a2 t j ht ((h t j ht).mpr ⟨hj, hm⟩))
