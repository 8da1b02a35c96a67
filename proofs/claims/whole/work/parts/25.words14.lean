/-! words of the fourteenth part: walks in the graph, apart from both programs -/
/-- two places with one value -/
theorem gr_twice : ∀ (m n : Nat) (f : Nat → Nat), (∀ i, i < n → f i < m) → m < n → ∃ i j, i < j ∧ j < n ∧ f i = f j
  | 0, n, f, h, hm => absurd (h 0 hm) (Nat.not_lt_zero _)
  | m + 1, n, f, h, hm => by
    refine Classical.byContradiction fun hx => ?_
    have hinj : ∀ i j, i < j → j < n → f i ≠ f j := fun i j a b e => hx ⟨i, j, a, b, e⟩
    obtain ⟨n', rfl⟩ : ∃ n', n = n' + 1 := ⟨n - 1, by omega⟩
    -- the value of the last place is moved to the top
    have hl := h n' (by omega)
    obtain ⟨i, j, hij, hj, e⟩ := gr_twice m n' (fun i => if f i = m then f n' else f i) (fun i hi => by
      have h1 := h i (by omega)
      have h2 := hinj i n' hi (by omega)
      show (if f i = m then f n' else f i) < m
      split <;> omega) (by omega)
    have e' : (if f i = m then f n' else f i) = (if f j = m then f n' else f j) := e
    have h1 := hinj i j hij (by omega)
    have h2 := hinj i n' (by omega) (by omega)
    have h3 := hinj j n' (by omega) (by omega)
    split at e' <;> split at e' <;> omega
/-- k steps from i to j inside n states -/
def wk (n : Nat) (m : Nat → Nat → Nat) (k i j : Nat) : Prop := ∃ p : Nat → Nat, p 0 = i ∧ p k = j ∧ (∀ t, t ≤ k → p t < n) ∧ ∀ t, t < k → m (p t) (p (t + 1)) ≠ 0
theorem wk_0 {n : Nat} {m : Nat → Nat → Nat} {i : Nat} (h : i < n) : wk n m 0 i i := ⟨fun _ => i, rfl, rfl, fun _ _ => h, fun t ht => absurd ht (Nat.not_lt_zero _)⟩
theorem wk_in {n : Nat} {m : Nat → Nat → Nat} {k i j : Nat} (h : wk n m k i j) : i < n ∧ j < n := by
  obtain ⟨p, rfl, rfl, h1, _⟩ := h
  exact ⟨h1 0 (Nat.zero_le _), h1 k (Nat.le_refl _)⟩
theorem wk_1 {n : Nat} {m : Nat → Nat → Nat} {i j : Nat} : wk n m 1 i j ↔ i < n ∧ j < n ∧ m i j ≠ 0 := by
  constructor
  · rintro ⟨p, rfl, rfl, h1, h2⟩
    exact ⟨h1 0 (by omega), h1 1 (by omega), h2 0 (by omega)⟩
  · rintro ⟨hi, hj, hm⟩
    exact ⟨fun t => if t = 0 then i else j, rfl, rfl, fun t _ => by show (if t = 0 then i else j) < n; split <;> assumption, fun t ht => by
      have : t = 0 := by omega
      subst this; exact hm⟩
theorem wk_cat {n : Nat} {m : Nat → Nat → Nat} {a b i j k : Nat} (h : wk n m a i j) (g : wk n m b j k) : wk n m (a + b) i k := by
  obtain ⟨p, p0, pa, p1, p2⟩ := h
  obtain ⟨q, q0, qb, q1, q2⟩ := g
  refine ⟨fun t => if t < a then p t else q (t - a), ?_, ?_, fun t ht => ?_, fun t ht => ?_⟩
  · show (if 0 < a then p 0 else q (0 - a)) = i
    by_cases e : 0 < a
    · rw [if_pos e]; exact p0
    · have : a = 0 := by omega
      subst this
      rw [if_neg e]; show q 0 = i; rw [q0, ← pa, p0]
  · show (if a + b < a then p (a + b) else q (a + b - a)) = k
    rw [if_neg (by omega), show a + b - a = b by omega]; exact qb
  · show (if t < a then p t else q (t - a)) < n
    split
    · exact p1 t (by omega)
    · exact q1 _ (by omega)
  · show m (if t < a then p t else q (t - a)) (if t + 1 < a then p (t + 1) else q (t + 1 - a)) ≠ 0
    by_cases e : t + 1 < a
    · rw [if_pos (by omega), if_pos e]; exact p2 t (by omega)
    · by_cases e2 : t < a
      · have e3 : t + 1 = a := by omega
        rw [if_pos e2, if_neg e, show t + 1 - a = 0 by omega, q0, ← pa, ← e3]; exact p2 t e2
      · rw [if_neg e2, if_neg e, show t + 1 - a = t - a + 1 by omega]; exact q2 _ (by omega)
theorem wk_cut {n : Nat} {m : Nat → Nat → Nat} {k i j : Nat} (h : wk n m k i j) {a : Nat} (ha : a ≤ k) : ∃ t, wk n m a i t ∧ wk n m (k - a) t j := by
  obtain ⟨p, p0, pk, p1, p2⟩ := h
  refine ⟨p a, ⟨p, p0, rfl, fun t ht => p1 t (by omega), fun t ht => p2 t (by omega)⟩, ⟨fun t => p (a + t), rfl, ?_, fun t ht => p1 _ (by omega), fun t ht => p2 (a + t) (by omega)⟩⟩
  show p (a + (k - a)) = j
  rw [show a + (k - a) = k by omega]; exact pk
/-- a walk of n steps or more goes round somewhere -/
theorem wk_round {n : Nat} {m : Nat → Nat → Nat} {k i j : Nat} (h : wk n m k i j) (hk : n ≤ k) : ∃ c a b d, wk n m a i c ∧ wk n m (b + 1) c c ∧ wk n m d c j ∧ a + (b + 1) + d = k ∧ a + (b + 1) ≤ n := by
  obtain ⟨p, p0, pk, p1, p2⟩ := h
  obtain ⟨x, y, hxy, hy, e⟩ := gr_twice n (n + 1) p (fun t ht => p1 t (by omega)) (by omega)
  refine ⟨p x, x, y - x - 1, k - y, ⟨p, p0, rfl, fun t ht => p1 t (by omega), fun t ht => p2 t (by omega)⟩, ⟨fun t => p (x + t), rfl, ?_, fun t ht => p1 _ (by omega), fun t ht => p2 (x + t) (by omega)⟩, ⟨fun t => p (y + t), ?_, ?_, fun t ht => p1 _ (by omega), fun t ht => p2 (y + t) (by omega)⟩, by omega, by omega⟩
  · show p (x + (y - x - 1 + 1)) = p x
    rw [show x + (y - x - 1 + 1) = y by omega, e]
  · show p (y + 0) = p x
    exact e.symm
  · show p (y + (k - y)) = j
    rw [show y + (k - y) = k by omega]; exact pk
/-- what is reached is reached in less than n steps -/
theorem wk_short {n : Nat} {m : Nat → Nat → Nat} {i j : Nat} : ∀ k, wk n m k i j → ∃ k', k' ≤ n - 1 ∧ k' ≤ k ∧ wk n m k' i j := by
  intro k
  induction k using Nat.strongRecOn with
  | _ k ih =>
    intro h
    by_cases e : k < n
    · exact ⟨k, by omega, Nat.le_refl _, h⟩
    · obtain ⟨c, a, b, d, h1, h2, h3, h4, h5⟩ := wk_round h (by omega)
      obtain ⟨k', q1, q2, q3⟩ := ih (a + d) (by omega) (wk_cat h1 h3)
      exact ⟨k', q1, by omega, q3⟩
/-- a round walk may be made as long as one wants -/
theorem wk_turn {n : Nat} {m : Nat → Nat → Nat} {c b : Nat} (h : wk n m (b + 1) c c) : ∀ t, wk n m (t * (b + 1)) c c
  | 0 => by rw [Nat.zero_mul]; exact wk_0 (wk_in h).1
  | t + 1 => by rw [Nat.succ_mul]; exact wk_cat (wk_turn h t) h
/-- ends of long walks are the states behind a round -/
theorem wk_ends {n : Nat} {m : Nat → Nat → Nat} {j : Nat} : (∃ i, wk n m n i j) ↔ ∃ c b a, wk n m (b + 1) c c ∧ wk n m a c j := by
  constructor
  · rintro ⟨i, h⟩
    obtain ⟨c, a, b, d, h1, h2, h3, _⟩ := wk_round h (Nat.le_refl n)
    exact ⟨c, b, d, h2, h3⟩
  · rintro ⟨c, b, a, h1, h2⟩
    have h := wk_cat (wk_turn h1 n) h2
    have hle : n ≤ n * (b + 1) + a := by
      have := Nat.le_mul_of_pos_right n (show 0 < b + 1 by omega)
      omega
    obtain ⟨t, _, h4⟩ := wk_cut h (a := n * (b + 1) + a - n) (by omega)
    rw [show n * (b + 1) + a - (n * (b + 1) + a - n) = n by omega] at h4
    exact ⟨t, h4⟩
theorem wk_begins {n : Nat} {m : Nat → Nat → Nat} {i : Nat} : (∃ j, wk n m n i j) ↔ ∃ c b a, wk n m (b + 1) c c ∧ wk n m a i c := by
  constructor
  · rintro ⟨j, h⟩
    obtain ⟨c, a, b, d, h1, h2, h3, _⟩ := wk_round h (Nat.le_refl n)
    exact ⟨c, b, a, h2, h1⟩
  · rintro ⟨c, b, a, h1, h2⟩
    have h := wk_cat h2 (wk_turn h1 n)
    have hle : n ≤ a + n * (b + 1) := by
      have := Nat.le_mul_of_pos_right n (show 0 < b + 1 by omega)
      omega
    obtain ⟨t, h3, _⟩ := wk_cut h hle
    exact ⟨t, h3⟩
