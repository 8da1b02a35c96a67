/-! words of the fifteenth part: the sets, by walks -/
theorem bit_or2 (r k j : Nat) : (r ||| 2 ^ k).testBit j = (r.testBit j || decide (j = k)) := by
  rw [Nat.testBit_or, Nat.testBit_two_pow]
  congr 1
  exact decide_eq_decide.mpr ⟨Eq.symm, Eq.symm⟩
theorem daF_bit (n : Nat) (m : Nat → Nat → Nat) (f j : Nat) : ∀ k, (daF n m f k).testBit j = true ↔ j < k ∧ m f j ≠ 0
  | 0 => by show (0 : Nat).testBit j = true ↔ _; simp
  | k + 1 => by
    have ih := daF_bit n m f j k
    show (if m f k = 0 then daF n m f k else daF n m f k ||| 2 ^ k).testBit j = true ↔ _
    by_cases e : m f k = 0
    · rw [if_pos e, ih]
      constructor
      · rintro ⟨a, b⟩; exact ⟨by omega, b⟩
      · rintro ⟨a, b⟩
        have : j ≠ k := fun h => b (h ▸ e)
        exact ⟨by omega, b⟩
    · rw [if_neg e, bit_or2, Bool.or_eq_true, decide_eq_true_eq, ih]
      constructor
      · rintro (⟨a, b⟩ | rfl)
        · exact ⟨by omega, b⟩
        · exact ⟨by omega, e⟩
      · rintro ⟨a, b⟩
        by_cases h : j = k
        · exact Or.inr h
        · exact Or.inl ⟨by omega, b⟩
theorem saF_bit (n : Nat) (m : Nat → Nat → Nat) (s j : Nat) : ∀ k, (saF n m s k).testBit j = true ↔ ∃ i, i < k ∧ s.testBit i = true ∧ j < n ∧ m i j ≠ 0
  | 0 => by show (0 : Nat).testBit j = true ↔ _; simp
  | k + 1 => by
    have ih := saF_bit n m s j k
    show (if s.testBit k = true then saF n m s k ||| daF n m k n else saF n m s k).testBit j = true ↔ _
    constructor
    · intro h
      by_cases e : s.testBit k = true
      · rw [if_pos e, Nat.testBit_or, Bool.or_eq_true, ih, daF_bit] at h
        rcases h with ⟨i, a, b⟩ | h
        · exact ⟨i, by omega, b⟩
        · exact ⟨k, by omega, e, h⟩
      · rw [if_neg e, ih] at h
        obtain ⟨i, a, b⟩ := h
        exact ⟨i, by omega, b⟩
    · rintro ⟨i, a, b, c⟩
      by_cases e : s.testBit k = true
      · rw [if_pos e, Nat.testBit_or, Bool.or_eq_true, ih, daF_bit]
        by_cases h : i = k
        · exact Or.inr (h ▸ c)
        · exact Or.inl ⟨i, by omega, b, c⟩
      · rw [if_neg e, ih]
        have : i ≠ k := fun h => e (h ▸ b)
        exact ⟨i, by omega, b, c⟩
theorem and_ne {a b : Nat} : a &&& b ≠ 0 ↔ ∃ j, a.testBit j = true ∧ b.testBit j = true := by
  constructor
  · intro h
    obtain ⟨j, hj⟩ := Nat.exists_testBit_of_ne_zero h
    rw [Nat.testBit_and, Bool.and_eq_true] at hj
    exact ⟨j, hj⟩
  · rintro ⟨j, h1, h2⟩ e
    have : (a &&& b).testBit j = true := by rw [Nat.testBit_and, h1, h2]; rfl
    rw [e, Nat.zero_testBit] at this
    exact absurd this (by decide)
theorem sbF_bit (n : Nat) (m : Nat → Nat → Nat) (s i : Nat) : ∀ k, (sbF n m s k).testBit i = true ↔ i < k ∧ ∃ j, j < n ∧ m i j ≠ 0 ∧ s.testBit j = true
  | 0 => by show (0 : Nat).testBit i = true ↔ _; simp
  | k + 1 => by
    have ih := sbF_bit n m s i k
    show (if daF n m k n &&& s = 0 then sbF n m s k else sbF n m s k ||| 2 ^ k).testBit i = true ↔ _
    have hd : daF n m k n &&& s ≠ 0 ↔ ∃ j, j < n ∧ m k j ≠ 0 ∧ s.testBit j = true := by
      rw [and_ne]
      constructor
      · rintro ⟨j, a, b⟩
        rw [daF_bit] at a
        exact ⟨j, a.1, a.2, b⟩
      · rintro ⟨j, a, b, c⟩
        exact ⟨j, (daF_bit n m k j n).mpr ⟨a, b⟩, c⟩
    by_cases e : daF n m k n &&& s = 0
    · rw [if_pos e, ih]
      constructor
      · rintro ⟨a, b⟩; exact ⟨by omega, b⟩
      · rintro ⟨a, b⟩
        have : i ≠ k := fun h => hd.mpr (h ▸ b) e
        exact ⟨by omega, b⟩
    · rw [if_neg e, bit_or2, Bool.or_eq_true, decide_eq_true_eq, ih]
      constructor
      · rintro (⟨a, b⟩ | rfl)
        · exact ⟨by omega, b⟩
        · exact ⟨by omega, hd.mp e⟩
      · rintro ⟨a, b⟩
        by_cases h : i = k
        · exact Or.inr h
        · exact Or.inl ⟨by omega, b⟩
theorem wk_s {n : Nat} {m : Nat → Nat → Nat} {k i j : Nat} : wk n m (k + 1) i j ↔ ∃ t, t < n ∧ wk n m k i t ∧ j < n ∧ m t j ≠ 0 := by
  constructor
  · intro h
    obtain ⟨t, h1, h2⟩ := wk_cut h (a := k) (by omega)
    rw [show k + 1 - k = 1 by omega, wk_1] at h2
    exact ⟨t, h2.1, h1, h2.2⟩
  · rintro ⟨t, h1, h2, h3⟩
    exact wk_cat h2 (wk_1.mpr ⟨h1, h3⟩)
theorem wk_p {n : Nat} {m : Nat → Nat → Nat} {k i j : Nat} : wk n m (k + 1) i j ↔ ∃ t, t < n ∧ (i < n ∧ m i t ≠ 0) ∧ wk n m k t j := by
  constructor
  · intro h
    obtain ⟨t, h1, h2⟩ := wk_cut h (a := 1) (by omega)
    rw [show k + 1 - 1 = k by omega] at h2
    rw [wk_1] at h1
    exact ⟨t, h1.2.1, ⟨h1.1, h1.2.2⟩, h2⟩
  · rintro ⟨t, h1, h2, h3⟩
    rw [Nat.add_comm]
    exact wk_cat (wk_1.mpr ⟨h2.1, h1, h2.2⟩) h3
theorem esE_bit (n : Nat) (m : Nat → Nat → Nat) : ∀ k j, (esE n m k).testBit j = true ↔ ∃ i, wk n m k i j
  | 0, j => by
    show (2 ^ n - 1).testBit j = true ↔ _
    rw [Nat.testBit_two_pow_sub_one, decide_eq_true_eq]
    constructor
    · exact fun h => ⟨j, wk_0 h⟩
    · rintro ⟨i, h⟩; exact (wk_in h).2
  | k + 1, j => by
    show (saF n m (esE n m k) n).testBit j = true ↔ _
    rw [saF_bit]
    constructor
    · rintro ⟨i, a, b, c⟩
      obtain ⟨s, h⟩ := (esE_bit n m k i).mp b
      exact ⟨s, wk_s.mpr ⟨i, a, h, c⟩⟩
    · rintro ⟨s, h⟩
      obtain ⟨t, a, b, c⟩ := wk_s.mp h
      exact ⟨t, a, (esE_bit n m k t).mpr ⟨s, b⟩, c⟩
theorem esB_bit (n : Nat) (m : Nat → Nat → Nat) : ∀ k i, (esB n m k).testBit i = true ↔ ∃ j, wk n m k i j
  | 0, i => by
    show (2 ^ n - 1).testBit i = true ↔ _
    rw [Nat.testBit_two_pow_sub_one, decide_eq_true_eq]
    constructor
    · exact fun h => ⟨i, wk_0 h⟩
    · rintro ⟨j, h⟩; exact (wk_in h).1
  | k + 1, i => by
    show (sbF n m (esB n m k) n).testBit i = true ↔ _
    rw [sbF_bit]
    constructor
    · rintro ⟨a, j, b, c, d⟩
      obtain ⟨s, h⟩ := (esB_bit n m k j).mp d
      exact ⟨s, wk_p.mpr ⟨j, b, ⟨a, c⟩, h⟩⟩
    · rintro ⟨s, h⟩
      obtain ⟨t, a, b, c⟩ := wk_p.mp h
      exact ⟨b.1, t, a, b.2, (esB_bit n m k t).mpr ⟨s, c⟩⟩
theorem essV_bit (n : Nat) (m : Nat → Nat → Nat) (i : Nat) : (essV n m).testBit i = true ↔ (∃ c b a, wk n m (b + 1) c c ∧ wk n m a c i) ∧ ∃ c b a, wk n m (b + 1) c c ∧ wk n m a i c := by
  unfold essV
  rw [Nat.testBit_and, Bool.and_eq_true, esE_bit, esB_bit, wk_ends, wk_begins]
