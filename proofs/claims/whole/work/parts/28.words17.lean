/-! words of the seventeenth part: the reference's essential states are the class's -/
theorem rwI_bit {nw r : Nat → Nat} {i : Nat} (j : Nat) : ∀ k, (rwI nw i k r i).testBit j = true ↔ j < k ∧ 0 < nw (1 + 6 * i + j)
  | 0 => by
    show (updN r i 0 i).testBit j = true ↔ _
    simp [updN]
  | k + 1 => by
    have ih := rwI_bit (nw := nw) (r := r) (i := i) j k
    show (updN (rwI nw i k r) i (rwI nw i k r i ||| (if 0 < nw (1 + 6 * i + k) then 2 ^ k else 0)) i).testBit j = true ↔ _
    have e : updN (rwI nw i k r) i (rwI nw i k r i ||| (if 0 < nw (1 + 6 * i + k) then 2 ^ k else 0)) i = rwI nw i k r i ||| (if 0 < nw (1 + 6 * i + k) then 2 ^ k else 0) := by simp [updN]
    rw [e]
    by_cases h : 0 < nw (1 + 6 * i + k)
    · rw [if_pos h, bit_or2, Bool.or_eq_true, decide_eq_true_eq, ih]
      constructor
      · rintro (⟨a, b⟩ | rfl)
        · exact ⟨by omega, b⟩
        · exact ⟨by omega, h⟩
      · rintro ⟨a, b⟩
        by_cases q : j = k
        · exact Or.inr q
        · exact Or.inl ⟨by omega, b⟩
    · rw [if_neg h, Nat.or_zero, ih]
      constructor
      · rintro ⟨a, b⟩; exact ⟨by omega, b⟩
      · rintro ⟨a, b⟩
        have : j ≠ k := fun q => h (q ▸ b)
        exact ⟨by omega, b⟩
theorem rwF_bit {nw rc : Nat → Nat} (j : Nat) : ∀ k x, x < k → ((rwF nw k rc x).testBit j = true ↔ j < nw 0 ∧ 0 < nw (1 + 6 * x + j))
  | 0, x, h => absurd h (Nat.not_lt_zero x)
  | k + 1, x, h => by
    show ((rwI nw k (nw 0) (rwF nw k rc) x).testBit j = true ↔ _)
    by_cases e : x = k
    · subst e; exact rwI_bit j (nw 0)
    · rw [rwI_ne e]; exact rwF_bit j k x (by omega)
/-- the reference's reaching sets say which walks there are -/
theorem rch_bit {nw rc : Nat → Nat} {i j : Nat} (hi : i < nw 0) : (rchF nw rc i).testBit j = true ↔ ∃ b, wk (nw 0) (rvV nw 0) (b + 1) i j := by
  unfold rchF
  refine waF_bit (n := nw 0) (m := rvV nw 0) (fun x y hx => ?_) hi
  rw [rwF_bit y (nw 0) x hx]
  constructor
  · rintro ⟨a, b⟩
    refine ⟨a, ?_⟩
    rw [rvV, if_pos ⟨hx, a⟩, Nat.zero_add]
    omega
  · rintro ⟨a, b⟩
    rw [rvV, if_pos ⟨hx, a⟩, Nat.zero_add] at b
    exact ⟨a, by omega⟩
theorem cyF_bit (r : Nat → Nat) (i : Nat) : ∀ k, (cyF r k).testBit i = true ↔ i < k ∧ (r i).testBit i = true
  | 0 => by show (0 : Nat).testBit i = true ↔ _; simp
  | k + 1 => by
    have ih := cyF_bit r i k
    show (cyF r k ||| (if (r k).testBit k = true then 2 ^ k else 0)).testBit i = true ↔ _
    by_cases h : (r k).testBit k = true
    · rw [if_pos h, bit_or2, Bool.or_eq_true, decide_eq_true_eq, ih]
      constructor
      · rintro (⟨a, b⟩ | rfl)
        · exact ⟨by omega, b⟩
        · exact ⟨by omega, h⟩
      · rintro ⟨a, b⟩
        by_cases q : i = k
        · exact Or.inr q
        · exact Or.inl ⟨by omega, b⟩
    · rw [if_neg h, Nat.or_zero, ih]
      constructor
      · rintro ⟨a, b⟩; exact ⟨by omega, b⟩
      · rintro ⟨a, b⟩
        have : i ≠ k := fun q => h (q ▸ b)
        exact ⟨by omega, b⟩
theorem enI_iff (r : Nat → Nat) (cy i : Nat) : ∀ k, enI r cy i k = true ↔ cy.testBit i = true ∨ ∃ c, c < k ∧ cy.testBit c = true ∧ (r c).testBit i = true
  | 0 => by
    show cy.testBit i = true ↔ _
    simp
  | k + 1 => by
    have ih := enI_iff r cy i k
    show (enI r cy i k || (cy.testBit k && (r k).testBit i)) = true ↔ _
    rw [Bool.or_eq_true, Bool.and_eq_true, ih]
    constructor
    · rintro ((a | ⟨c, a, b⟩) | b)
      · exact Or.inl a
      · exact Or.inr ⟨c, by omega, b⟩
      · exact Or.inr ⟨k, by omega, b⟩
    · rintro (a | ⟨c, a, b⟩)
      · exact Or.inl (Or.inl a)
      · by_cases q : c = k
        · subst q; exact Or.inr b
        · exact Or.inl (Or.inr ⟨c, by omega, b⟩)
theorem bgI_iff (r : Nat → Nat) (cy i : Nat) : bgI r cy i = true ↔ cy.testBit i = true ∨ ∃ c, (r i).testBit c = true ∧ cy.testBit c = true := by
  unfold bgI
  rw [Bool.or_eq_true, decide_eq_true_eq, and_ne]
theorem eqF_bit (r : Nat → Nat) (cy n i : Nat) : ∀ k, (eqF r cy n k).testBit i = true ↔ i < k ∧ enI r cy i n = true ∧ bgI r cy i = true
  | 0 => by show (0 : Nat).testBit i = true ↔ _; simp
  | k + 1 => by
    have ih := eqF_bit r cy n i k
    show (eqF r cy n k ||| (if (enI r cy k n && bgI r cy k) = true then 2 ^ k else 0)).testBit i = true ↔ _
    by_cases h : (enI r cy k n && bgI r cy k) = true
    · rw [if_pos h, bit_or2, Bool.or_eq_true, decide_eq_true_eq, ih]
      rw [Bool.and_eq_true] at h
      constructor
      · rintro (⟨a, b⟩ | rfl)
        · exact ⟨by omega, b⟩
        · exact ⟨by omega, h⟩
      · rintro ⟨a, b⟩
        by_cases q : i = k
        · exact Or.inr q
        · exact Or.inl ⟨by omega, b⟩
    · rw [if_neg h, Nat.or_zero, ih]
      rw [Bool.and_eq_true] at h
      constructor
      · rintro ⟨a, b⟩; exact ⟨by omega, b⟩
      · rintro ⟨a, b⟩
        have : i ≠ k := fun q => h (q ▸ b)
        exact ⟨by omega, b⟩
theorem esM_eq (nw rc : Nat → Nat) : esM nw rc = essV (nw 0) (rvV nw 0) := by
  apply Nat.eq_of_testBit_eq
  intro i
  rw [Bool.eq_iff_iff, essV_bit]
  unfold esM
  rw [eqF_bit, enI_iff, bgI_iff]
  have hcy : ∀ c, (cyF (rchF nw rc) (nw 0)).testBit c = true ↔ ∃ b, wk (nw 0) (rvV nw 0) (b + 1) c c := fun c => by
    rw [cyF_bit]
    constructor
    · rintro ⟨a, b⟩; exact (rch_bit a).mp b
    · rintro ⟨b, w⟩
      have := (wk_in w).1
      exact ⟨this, (rch_bit this).mpr ⟨b, w⟩⟩
  constructor
  · rintro ⟨hi, h1, h2⟩
    refine ⟨?_, ?_⟩
    · rcases h1 with h1 | ⟨c, hc, hcc, hci⟩
      · obtain ⟨b, w⟩ := (hcy i).mp h1
        exact ⟨i, b, 0, w, wk_0 hi⟩
      · obtain ⟨b, w⟩ := (hcy c).mp hcc
        obtain ⟨a, w2⟩ := (rch_bit hc).mp hci
        exact ⟨c, b, a + 1, w, w2⟩
    · rcases h2 with h2 | ⟨c, hic, hcc⟩
      · obtain ⟨b, w⟩ := (hcy i).mp h2
        exact ⟨i, b, 0, w, wk_0 hi⟩
      · obtain ⟨b, w⟩ := (hcy c).mp hcc
        obtain ⟨a, w2⟩ := (rch_bit hi).mp hic
        exact ⟨c, b, a + 1, w, w2⟩
  · rintro ⟨⟨c, b, a, w, w2⟩, ⟨c', b', a', w', w2'⟩⟩
    have hi := (wk_in w2).2
    refine ⟨hi, ?_, ?_⟩
    · cases a with
      | zero =>
        obtain ⟨p, p0, p1, _⟩ := w2
        rw [p0] at p1
        subst p1
        exact Or.inl ((hcy _).mpr ⟨b, w⟩)
      | succ a => exact Or.inr ⟨c, (wk_in w).1, (hcy c).mpr ⟨b, w⟩, (rch_bit (wk_in w).1).mpr ⟨a, w2⟩⟩
    · cases a' with
      | zero =>
        obtain ⟨p, p0, p1, _⟩ := w2'
        rw [p0] at p1
        subst p1
        exact Or.inl ((hcy _).mpr ⟨b', w'⟩)
      | succ a' => exact Or.inr ⟨c', (rch_bit hi).mpr ⟨a', w2'⟩, (hcy c').mpr ⟨b', w'⟩⟩
/-! periods: a walk that is too long has a round that shorter ones know -/
theorem dr_round {n : Nat} {m : Nat → Nat → Nat} {s d : Nat} (hd : ∀ L, 1 ≤ L → L ≤ 3 * n → wk n m L s s → d ∣ L) : ∀ L, wk n m L s s → d ∣ L := by
  intro L
  induction L using Nat.strongRecOn with
  | _ L ih =>
    intro w
    by_cases h0 : L = 0
    · subst h0; exact Nat.dvd_zero d
    · by_cases h : L ≤ 3 * n
      · exact hd L (by omega) h w
      · obtain ⟨c, a, b, e, w1, w2, w3, h4, h5⟩ := wk_round w (by omega)
        have i1 := ih (a + e) (by omega) (wk_cat w1 w3)
        obtain ⟨f, f1, _, w4⟩ := wk_short e w3
        have i2 := hd (a + (b + 1) + f) (by omega) (by omega) (wk_cat (wk_cat w1 w2) w4)
        have i3 : d ∣ a + f := by
          by_cases hz : a + f = 0
          · rw [hz]; exact Nat.dvd_zero d
          · exact hd (a + f) (by omega) (by omega) (wk_cat w1 w4)
        have i4 : d ∣ b + 1 := by
          have := Nat.dvd_sub i2 i3
          rw [show a + (b + 1) + f - (a + f) = b + 1 by omega] at this
          exact this
        have := Nat.dvd_add i1 i4
        rw [show a + e + (b + 1) = L by omega] at this
        exact this
theorem drR_bit {n : Nat} {m : Nat → Nat → Nat} {s : Nat} (hs : s < n) : ∀ k j, (drR n m s k).testBit j = true ↔ wk n m k s j
  | 0, j => by
    show (2 ^ s).testBit j = true ↔ _
    rw [Nat.testBit_two_pow, decide_eq_true_eq]
    constructor
    · rintro rfl; exact wk_0 hs
    · rintro ⟨p, p0, p1, _⟩; rw [← p0, p1]
  | k + 1, j => by
    show (saF n m (drR n m s k) n).testBit j = true ↔ _
    rw [saF_bit, wk_s]
    constructor
    · rintro ⟨i, a, b, c⟩; exact ⟨i, a, (drR_bit hs k i).mp b, c⟩
    · rintro ⟨i, a, b, c⟩; exact ⟨i, a, (drR_bit hs k i).mpr b, c⟩
theorem drD_dvd {n : Nat} {m : Nat → Nat → Nat} {s : Nat} (hs : s < n) (d : Nat) : ∀ k, d ∣ drD n m s k ↔ ∀ L, 1 ≤ L → L ≤ k → wk n m L s s → d ∣ L
  | 0 => ⟨fun _ L h1 h2 => absurd h1 (by omega), fun _ => Nat.dvd_zero d⟩
  | k + 1 => by
    have ih := drD_dvd (m := m) hs d k
    show d ∣ (if (drR n m s (k + 1)).testBit s = true then Nat.gcd (drD n m s k) (k + 1) else drD n m s k) ↔ _
    by_cases h : (drR n m s (k + 1)).testBit s = true
    · rw [if_pos h]
      have w := (drR_bit hs (k + 1) s).mp h
      constructor
      · intro q L h1 h2 w2
        by_cases e : L = k + 1
        · rw [e]; exact Nat.dvd_trans q (Nat.gcd_dvd_right _ _)
        · exact ih.mp (Nat.dvd_trans q (Nat.gcd_dvd_left _ _)) L h1 (by omega) w2
      · intro q
        exact Nat.dvd_gcd (ih.mpr (fun L h1 h2 w2 => q L h1 (by omega) w2)) (q (k + 1) (by omega) (Nat.le_refl _) w)
    · rw [if_neg h, ih]
      constructor
      · intro q L h1 h2 w2
        by_cases e : L = k + 1
        · subst e; exact absurd ((drR_bit hs (k + 1) s).mpr w2) h
        · exact q L h1 (by omega) w2
      · intro q L h1 h2 w2; exact q L h1 (by omega) w2
theorem drD_24 {n : Nat} (m : Nat → Nat → Nat) {s : Nat} (hn : n ≤ 6) (hs : s < n) : drD n m s 24 = drD n m s (3 * n) := by
  apply Nat.dvd_antisymm
  · rw [drD_dvd hs]
    intro L h1 h2 w
    exact (drD_dvd hs (drD n m s 24) 24).mp (Nat.dvd_refl _) L h1 (by omega) w
  · rw [drD_dvd hs]
    intro L h1 h2 w
    exact dr_round ((drD_dvd hs (drD n m s (3 * n)) (3 * n)).mp (Nat.dvd_refl _)) L w
/-! components -/
theorem csR_bit {n : Nat} {m : Nat → Nat → Nat} {s : Nat} (hs : s < n) : ∀ k j, (csR n m s k).testBit j = true ↔ ∃ a, a ≤ k ∧ wk n m a s j
  | 0, j => by
    show (2 ^ s).testBit j = true ↔ _
    rw [Nat.testBit_two_pow, decide_eq_true_eq]
    constructor
    · rintro rfl; exact ⟨0, Nat.le_refl 0, wk_0 hs⟩
    · rintro ⟨a, h, p, p0, p1, _⟩
      have : a = 0 := by omega
      subst this
      rw [← p0, p1]
  | k + 1, j => by
    show (csR n m s k ||| saF n m (csR n m s k) n).testBit j = true ↔ _
    rw [Nat.testBit_or, Bool.or_eq_true, saF_bit, csR_bit hs k j]
    constructor
    · rintro (⟨a, h, w⟩ | ⟨i, h, hb, hj, hm⟩)
      · exact ⟨a, by omega, w⟩
      · obtain ⟨a, h2, w⟩ := (csR_bit hs k i).mp hb
        exact ⟨a + 1, by omega, wk_s.mpr ⟨i, h, w, hj, hm⟩⟩
    · rintro ⟨a, h, w⟩
      by_cases e : a ≤ k
      · exact Or.inl ⟨a, e, w⟩
      · have : a = k + 1 := by omega
        subst this
        obtain ⟨t, ht, w1, hj, hm⟩ := wk_s.mp w
        exact Or.inr ⟨t, ht, (csR_bit hs k t).mpr ⟨k, Nat.le_refl k, w1⟩, hj, hm⟩
theorem csB_bit {n : Nat} {m : Nat → Nat → Nat} {s : Nat} (hs : s < n) : ∀ k j, (csB n m s k).testBit j = true ↔ ∃ a, a ≤ k ∧ wk n m a j s
  | 0, j => by
    show (2 ^ s).testBit j = true ↔ _
    rw [Nat.testBit_two_pow, decide_eq_true_eq]
    constructor
    · rintro rfl; exact ⟨0, Nat.le_refl 0, wk_0 hs⟩
    · rintro ⟨a, h, p, p0, p1, _⟩
      have : a = 0 := by omega
      subst this
      rw [← p1, p0]
  | k + 1, j => by
    show (csB n m s k ||| sbF n m (csB n m s k) n).testBit j = true ↔ _
    rw [Nat.testBit_or, Bool.or_eq_true, sbF_bit, csB_bit hs k j]
    constructor
    · rintro (⟨a, h, w⟩ | ⟨h, i, hi, hm, hb⟩)
      · exact ⟨a, by omega, w⟩
      · obtain ⟨a, h2, w⟩ := (csB_bit hs k i).mp hb
        exact ⟨a + 1, by omega, wk_p.mpr ⟨i, hi, ⟨h, hm⟩, w⟩⟩
    · rintro ⟨a, h, w⟩
      by_cases e : a ≤ k
      · exact Or.inl ⟨a, e, w⟩
      · have : a = k + 1 := by omega
        subst this
        obtain ⟨t, ht, ⟨hj, hm⟩, w1⟩ := wk_p.mp w
        exact Or.inr ⟨hj, t, ht, hm, (csB_bit hs k t).mpr ⟨k, Nat.le_refl k, w1⟩⟩
theorem csF_bit {n : Nat} {m : Nat → Nat → Nat} {s : Nat} (hs : s < n) (j : Nat) : (csF n m s).testBit j = true ↔ (∃ a, wk n m a s j) ∧ ∃ a, wk n m a j s := by
  unfold csF
  rw [Nat.testBit_and, Bool.and_eq_true, csR_bit hs, csB_bit hs]
  constructor
  · rintro ⟨⟨a, _, w⟩, ⟨b, _, w2⟩⟩; exact ⟨⟨a, w⟩, ⟨b, w2⟩⟩
  · rintro ⟨⟨a, w⟩, ⟨b, w2⟩⟩
    obtain ⟨a', h1, _, w'⟩ := wk_short a w
    obtain ⟨b', h2, _, w2'⟩ := wk_short b w2
    exact ⟨⟨a', h1, w'⟩, ⟨b', h2, w2'⟩⟩
/-- the reference's way to the lowest state of a component -/
def lwC (r : Nat → Nat) (s i : Nat) : Bool := (r i).testBit s && (r s).testBit i
def lwR (r : Nat → Nat) (s : Nat) : Nat → Nat → Nat
  | 0, w => w
  | k + 1, w => lwR r s k (if lwC r s k = true ∧ k < w then k else w)
theorem lwR_spec (r : Nat → Nat) (s : Nat) : ∀ k w, lwR r s k w ≤ w ∧ (lwR r s k w = w ∨ (lwC r s (lwR r s k w) = true ∧ lwR r s k w < k)) ∧ ∀ j, j < k → lwC r s j = true → lwR r s k w ≤ j
  | 0, w => ⟨Nat.le_refl w, Or.inl rfl, fun j h => absurd h (Nat.not_lt_zero j)⟩
  | k + 1, w => by
    by_cases h : lwC r s k = true ∧ k < w
    · obtain ⟨h1, h2, h3⟩ := lwR_spec r s k k
      have e : lwR r s (k + 1) w = lwR r s k k := by rw [lwR, if_pos h]
      rw [e]
      refine ⟨by omega, ?_, fun j hj hc => ?_⟩
      · rcases h2 with h2 | h2
        · exact Or.inr ⟨by rw [h2]; exact h.1, by omega⟩
        · exact Or.inr ⟨h2.1, by omega⟩
      · by_cases ej : j = k
        · omega
        · exact h3 j (by omega) hc
    · obtain ⟨h1, h2, h3⟩ := lwR_spec r s k w
      have e : lwR r s (k + 1) w = lwR r s k w := by rw [lwR, if_neg h]
      rw [e]
      refine ⟨h1, ?_, fun j hj hc => ?_⟩
      · rcases h2 with h2 | h2
        · exact Or.inl h2
        · exact Or.inr ⟨h2.1, by omega⟩
      · by_cases ej : j = k
        · subst ej
          have : ¬ j < w := fun q => h ⟨hc, q⟩
          omega
        · exact h3 j (by omega) hc
theorem lwC_cs {nw rc : Nat → Nat} {s i : Nat} (hs : s < nw 0) (hi : i < nw 0) (hne : i ≠ s) : lwC (rchF nw rc) s i = true ↔ (csF (nw 0) (rvV nw 0) s).testBit i = true := by
  unfold lwC
  rw [Bool.and_eq_true, rch_bit hi, rch_bit hs, csF_bit hs]
  constructor
  · rintro ⟨⟨a, w⟩, ⟨b, w2⟩⟩; exact ⟨⟨b + 1, w2⟩, ⟨a + 1, w⟩⟩
  · rintro ⟨⟨b, w2⟩, ⟨a, w⟩⟩
    cases a with
    | zero => obtain ⟨p, p0, p1, _⟩ := w; exact absurd (by rw [← p0, p1]) hne
    | succ a =>
      cases b with
      | zero => obtain ⟨p, p0, p1, _⟩ := w2; exact absurd (by rw [← p1, p0]) hne
      | succ b => exact ⟨⟨a, w⟩, ⟨b, w2⟩⟩
theorem cs_self {n : Nat} {m : Nat → Nat → Nat} {s : Nat} (hs : s < n) : (csF n m s).testBit s = true := (csF_bit hs s).mpr ⟨⟨0, wk_0 hs⟩, ⟨0, wk_0 hs⟩⟩
theorem lwR_low {nw rc : Nat → Nat} {s : Nat} (hs : s < nw 0) : lwR (rchF nw rc) s (nw 0) s = lowB (csF (nw 0) (rvV nw 0) s) s s := by
  obtain ⟨h1, h2, h3⟩ := lwR_spec (rchF nw rc) s (nw 0) s
  refine (lowB_eq h1 (fun k hk => ?_) (fun hk => ?_)).symm
  · have hn : (csF (nw 0) (rvV nw 0) s).testBit k ≠ true := fun q => by
      have := h3 k (by omega) ((lwC_cs hs (by omega) (by omega)).mpr q)
      omega
    simpa using hn
  · rcases h2 with h2 | h2
    · omega
    · exact (lwC_cs hs h2.2 (by omega)).mp h2.1
theorem lwR_self {nw rc : Nat → Nat} {s : Nat} (hs : s < nw 0) : lwR (rchF nw rc) s (nw 0) s = s ↔ csF (nw 0) (rvV nw 0) s &&& (2 ^ s - 1) = 0 := by
  obtain ⟨h1, h2, h3⟩ := lwR_spec (rchF nw rc) s (nw 0) s
  have hb : csF (nw 0) (rvV nw 0) s &&& (2 ^ s - 1) ≠ 0 ↔ ∃ j, (csF (nw 0) (rvV nw 0) s).testBit j = true ∧ j < s := by
    rw [and_ne]
    constructor
    · rintro ⟨j, a, b⟩
      rw [Nat.testBit_two_pow_sub_one, decide_eq_true_eq] at b
      exact ⟨j, a, b⟩
    · rintro ⟨j, a, b⟩
      exact ⟨j, a, by rw [Nat.testBit_two_pow_sub_one, decide_eq_true_eq]; exact b⟩
  constructor
  · intro e
    apply Classical.byContradiction
    intro hne
    obtain ⟨j, a, b⟩ := hb.mp hne
    have := h3 j (by omega) ((lwC_cs hs (by omega) (by omega)).mpr a)
    omega
  · intro e
    rcases h2 with h2 | ⟨h2, h4⟩
    · exact h2
    · apply Classical.byContradiction
      intro hne
      exact hb.mpr ⟨_, (lwC_cs hs h4 (by omega)).mp h2, by omega⟩ e
