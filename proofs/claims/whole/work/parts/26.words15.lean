/-! words of the fifteenth part: the sets, by walks -/
theorem bit_or2 (r k j : Nat) : (r ||| 2 ^ k).testBit j = (r.testBit j || decide (j = k)) := by
  rw [Nat.testBit_or, Nat.testBit_two_pow]
  congr 1
  exact decide_eq_decide.mpr ⟨Eq.symm, Eq.symm⟩
theorem daF_bit (n : Nat) (m : Nat → Nat → Nat) (f j : Nat) : ∀ k, (daF n m f k).testBit j = true ↔ j < k ∧ m f j ≠ 0
  | 0 => by show (0 : Nat).testBit j = true ↔ _; simp
  | k + 1 => by
    have ih := daF_bit n m f j k
    show (if m f k = 0 then daF n m f k else daF n m f k ||| 2 ^ k).testBit j = true ↔ _
    by_cases e : m f k = 0
    · rw [if_pos e, ih]
      constructor
      · rintro ⟨a, b⟩; exact ⟨by omega, b⟩
      · rintro ⟨a, b⟩
        have : j ≠ k := fun h => b (h ▸ e)
        exact ⟨by omega, b⟩
    · rw [if_neg e, bit_or2, Bool.or_eq_true, decide_eq_true_eq, ih]
      constructor
      · rintro (⟨a, b⟩ | rfl)
        · exact ⟨by omega, b⟩
        · exact ⟨by omega, e⟩
      · rintro ⟨a, b⟩
        by_cases h : j = k
        · exact Or.inr h
        · exact Or.inl ⟨by omega, b⟩
theorem saF_bit (n : Nat) (m : Nat → Nat → Nat) (s j : Nat) : ∀ k, (saF n m s k).testBit j = true ↔ ∃ i, i < k ∧ s.testBit i = true ∧ j < n ∧ m i j ≠ 0
  | 0 => by show (0 : Nat).testBit j = true ↔ _; simp
  | k + 1 => by
    have ih := saF_bit n m s j k
    show (if s.testBit k = true then saF n m s k ||| daF n m k n else saF n m s k).testBit j = true ↔ _
    constructor
    · intro h
      by_cases e : s.testBit k = true
      · rw [if_pos e, Nat.testBit_or, Bool.or_eq_true, ih, daF_bit] at h
        rcases h with ⟨i, a, b⟩ | h
        · exact ⟨i, by omega, b⟩
        · exact ⟨k, by omega, e, h⟩
      · rw [if_neg e, ih] at h
        obtain ⟨i, a, b⟩ := h
        exact ⟨i, by omega, b⟩
    · rintro ⟨i, a, b, c⟩
      by_cases e : s.testBit k = true
      · rw [if_pos e, Nat.testBit_or, Bool.or_eq_true, ih, daF_bit]
        by_cases h : i = k
        · exact Or.inr (h ▸ c)
        · exact Or.inl ⟨i, by omega, b, c⟩
      · rw [if_neg e, ih]
        have : i ≠ k := fun h => e (h ▸ b)
        exact ⟨i, by omega, b, c⟩
theorem and_ne {a b : Nat} : a &&& b ≠ 0 ↔ ∃ j, a.testBit j = true ∧ b.testBit j = true := by
  constructor
  · intro h
    obtain ⟨j, hj⟩ := Nat.exists_testBit_of_ne_zero h
    rw [Nat.testBit_and, Bool.and_eq_true] at hj
    exact ⟨j, hj⟩
  · rintro ⟨j, h1, h2⟩ e
    have : (a &&& b).testBit j = true := by rw [Nat.testBit_and, h1, h2]; rfl
    rw [e, Nat.zero_testBit] at this
    exact absurd this (by decide)
theorem sbF_bit (n : Nat) (m : Nat → Nat → Nat) (s i : Nat) : ∀ k, (sbF n m s k).testBit i = true ↔ i < k ∧ ∃ j, j < n ∧ m i j ≠ 0 ∧ s.testBit j = true
  | 0 => by show (0 : Nat).testBit i = true ↔ _; simp
  | k + 1 => by
    have ih := sbF_bit n m s i k
    show (if daF n m k n &&& s = 0 then sbF n m s k else sbF n m s k ||| 2 ^ k).testBit i = true ↔ _
    have hd : daF n m k n &&& s ≠ 0 ↔ ∃ j, j < n ∧ m k j ≠ 0 ∧ s.testBit j = true := by
      rw [and_ne]
      constructor
      · rintro ⟨j, a, b⟩
        rw [daF_bit] at a
        exact ⟨j, a.1, a.2, b⟩
      · rintro ⟨j, a, b, c⟩
        exact ⟨j, (daF_bit n m k j n).mpr ⟨a, b⟩, c⟩
    by_cases e : daF n m k n &&& s = 0
    · rw [if_pos e, ih]
      constructor
      · rintro ⟨a, b⟩; exact ⟨by omega, b⟩
      · rintro ⟨a, b⟩
        have : i ≠ k := fun h => hd.mpr (h ▸ b) e
        exact ⟨by omega, b⟩
    · rw [if_neg e, bit_or2, Bool.or_eq_true, decide_eq_true_eq, ih]
      constructor
      · rintro (⟨a, b⟩ | rfl)
        · exact ⟨by omega, b⟩
        · exact ⟨by omega, hd.mp e⟩
      · rintro ⟨a, b⟩
        by_cases h : i = k
        · exact Or.inr h
        · exact Or.inl ⟨by omega, b⟩
