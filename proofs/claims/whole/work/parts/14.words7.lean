/-! words of the seventh part: what the loops over a matrix do to its view -/
theorem mv_in {n : Nat} {a : Nat → Nat} {i j : Nat} (hi : i < n) (hj : j < n) : mv n a i j = a (i * 6 + j) := by rw [mv, if_pos ⟨hi, hj⟩]
theorem mv_out {n : Nat} {a : Nat → Nat} {i j : Nat} (h : ¬ (i < n ∧ j < n)) : mv n a i j = 0 := by rw [mv, if_neg h]
theorem mv_pu {n : Nat} {a : Nat → Nat} {i j v : Nat} (hn : n ≤ 6) (hi : i < n) (hj : j < n) (r c : Nat) : mv n (pu n a i j v) r c = if r = i ∧ c = j then v else mv n a r c := by
  by_cases h : r < n ∧ c < n
  · rw [mv_in h.1 h.2, mv_in h.1 h.2, pu, if_pos ⟨hi, hj⟩]
    simp only [updN]
    by_cases e : r = i ∧ c = j
    · rw [if_pos e, if_pos (by rw [e.1, e.2])]
    · rw [if_neg e, if_neg (by omega)]
  · rw [mv_out h, mv_out h, if_neg (by omega)]
theorem mv_row {n : Nat} (hn : n ≤ 6) (src : Nat → Nat → Nat) {i : Nat} (hi : i < n) (a : Nat → Nat) : ∀ k, k ≤ n → ∀ r c, mv n (it (fun j a => pu n a i j (src i j)) k a) r c = if r = i ∧ c < k then src r c else mv n a r c
  | 0, _, r, c => by rw [if_neg (by omega)]; rfl
  | k + 1, hk, r, c => by
    show mv n (pu n (it (fun j a => pu n a i j (src i j)) k a) i k (src i k)) r c = _
    rw [mv_pu hn hi (by omega), mv_row hn src hi a k (by omega)]
    by_cases e : r = i ∧ c = k
    · rw [if_pos e, if_pos (by omega), e.1, e.2]
    · rw [if_neg e]
      by_cases e2 : r = i ∧ c < k
      · rw [if_pos e2, if_pos (by omega)]
      · rw [if_neg e2, if_neg (by omega)]
theorem mv_copyR {n : Nat} (hn : n ≤ 6) (src : Nat → Nat → Nat) (a : Nat → Nat) : ∀ k, k ≤ n → ∀ r c, mv n (copyF n src k a) r c = if r < k ∧ c < n then src r c else mv n a r c
  | 0, _, r, c => by rw [if_neg (by omega)]; rfl
  | k + 1, hk, r, c => by
    show mv n (it (fun j a => pu n a k j (src k j)) n (copyF n src k a)) r c = _
    rw [mv_row hn src (by omega) _ n (Nat.le_refl n), mv_copyR hn src a k (by omega)]
    by_cases e : r = k ∧ c < n
    · rw [if_pos e, if_pos (by omega)]
    · rw [if_neg e]
      by_cases e2 : r < k ∧ c < n
      · rw [if_pos e2, if_pos (by omega)]
      · rw [if_neg e2, if_neg (by omega)]
theorem mv_copy {n : Nat} (hn : n ≤ 6) (b a : Nat → Nat) : mv n (copyF n (mv n b) n a) = mv n b := by
  funext r c
  rw [mv_copyR hn _ a n (Nat.le_refl n)]
  by_cases e : r < n ∧ c < n
  · rw [if_pos e]
  · rw [if_neg e, mv_out e, mv_out e]
theorem mv_fill {n v : Nat} (hn : n ≤ 6) (a : Nat → Nat) (r c : Nat) : mv n (fillF n v n a) r c = if r < n ∧ c < n then v else 0 := by
  show mv n (copyF n (fun _ _ => v) n a) r c = _
  rw [mv_copyR hn _ a n (Nat.le_refl n)]
  by_cases e : r < n ∧ c < n
  · rw [if_pos e, if_pos e]
  · rw [if_neg e, if_neg e, mv_out e]
theorem mv_trI {n : Nat} (hn : n ≤ 6) (a : Nat → Nat) {i : Nat} (hi : i < n) : ∀ t, t ≤ i → ∀ r c, mv n (it (fun j a => pu n (pu n a i j (mv n a j i)) j i (mv n a i j)) t a) r c = if (r = i ∧ c < t) ∨ (c = i ∧ r < t) then mv n a c r else mv n a r c
  | 0, _, r, c => by rw [if_neg (by omega)]; rfl
  | t + 1, ht, r, c => by
    have ih := mv_trI hn a hi t (by omega)
    show mv n (pu n (pu n (it (fun j a => pu n (pu n a i j (mv n a j i)) j i (mv n a i j)) t a) i t _) t i _) r c = _
    rw [mv_pu hn (by omega) hi, mv_pu hn hi (by omega), ih, ih, ih]
    rw [if_neg (show ¬ ((i = i ∧ t < t) ∨ (t = i ∧ i < t)) by omega), if_neg (show ¬ ((t = i ∧ i < t) ∨ (i = i ∧ t < t)) by omega)]
    by_cases e1 : r = t ∧ c = i
    · rw [if_pos e1, if_pos (by omega), e1.1, e1.2]
    · rw [if_neg e1]
      by_cases e2 : r = i ∧ c = t
      · rw [if_pos e2, if_pos (by omega), e2.1, e2.2]
      · rw [if_neg e2]
        by_cases e3 : (r = i ∧ c < t) ∨ (c = i ∧ r < t)
        · rw [if_pos e3, if_pos (by omega)]
        · rw [if_neg e3, if_neg (by omega)]
theorem mv_trR {n : Nat} (hn : n ≤ 6) (a : Nat → Nat) : ∀ k, k ≤ n → ∀ r c, mv n (trF n k a) r c = if r < k ∧ c < k then mv n a c r else mv n a r c
  | 0, _, r, c => by rw [if_neg (by omega)]; rfl
  | k + 1, hk, r, c => by
    have ih := mv_trR hn a k (by omega)
    show mv n (it (fun j a => pu n (pu n a k j (mv n a j k)) j k (mv n a k j)) k (trF n k a)) r c = _
    rw [mv_trI hn _ (by omega) k (Nat.le_refl k), ih, ih]
    by_cases e1 : r < k ∧ c < k
    · rw [if_neg (by omega), if_pos e1, if_pos (by omega)]
    · by_cases e2 : (r = k ∧ c < k) ∨ (c = k ∧ r < k)
      · rw [if_pos e2, if_neg (by omega), if_pos (by omega)]
      · rw [if_neg e2, if_neg e1]
        by_cases e3 : r < k + 1 ∧ c < k + 1
        · have : r = k := by omega
          have : c = k := by omega
          subst r; subst c
          rw [if_pos e3]
        · rw [if_neg e3]
theorem mv_tr {n : Nat} (hn : n ≤ 6) (a : Nat → Nat) (r c : Nat) : mv n (trF n n a) r c = mv n a c r := by
  rw [mv_trR hn a n (Nat.le_refl n)]
  by_cases e : r < n ∧ c < n
  · rw [if_pos e]
  · rw [if_neg e, mv_out e, mv_out (by omega)]
theorem sk_lt {s i : Nat} (h : i < s) : sk s i = i := by rw [sk, if_pos h]
theorem sk_ge {s i : Nat} (h : ¬ i < s) : sk s i = i + 1 := by rw [sk, if_neg h]
theorem mv_rmI {n s : Nat} (hn : n ≤ 6) (a : Nat → Nat) {i : Nat} (hi : i < n - 1) : ∀ t, t ≤ n - 1 → ∀ r c, mv n (it (fun j a => pu n a i j (mv n a (sk s i) (sk s j))) t a) r c = if r = i ∧ c < t then mv n a (sk s i) (sk s c) else mv n a r c
  | 0, _, r, c => by rw [if_neg (by omega)]; rfl
  | t + 1, ht, r, c => by
    have ih := mv_rmI (s := s) hn a hi t (by omega)
    show mv n (pu n (it (fun j a => pu n a i j (mv n a (sk s i) (sk s j))) t a) i t _) r c = _
    rw [mv_pu hn (by omega) (by omega), ih, ih]
    have hsk : t ≤ sk s t := by unfold sk; split <;> omega
    rw [if_neg (show ¬ (sk s i = i ∧ sk s t < t) by omega)]
    by_cases e1 : r = i ∧ c = t
    · rw [if_pos e1, if_pos (by omega), e1.2]
    · rw [if_neg e1]
      by_cases e2 : r = i ∧ c < t
      · rw [if_pos e2, if_pos (by omega)]
      · rw [if_neg e2, if_neg (by omega)]
theorem mv_rmR {n s : Nat} (hn : n ≤ 6) (a : Nat → Nat) : ∀ k, k ≤ n - 1 → ∀ r c, mv n (rmR n s k a) r c = if r < k ∧ c < n - 1 then mv n a (sk s r) (sk s c) else mv n a r c
  | 0, _, r, c => by rw [if_neg (by omega)]; rfl
  | k + 1, hk, r, c => by
    have ih := mv_rmR (s := s) hn a k (by omega)
    show mv n (it (fun j a => pu n a k j (mv n a (sk s k) (sk s j))) (n - 1) (rmR n s k a)) r c = _
    rw [mv_rmI hn _ (by omega) (n - 1) (Nat.le_refl _), ih, ih]
    have hsk : k ≤ sk s k := by unfold sk; split <;> omega
    rw [if_neg (show ¬ (sk s k < k ∧ sk s c < n - 1) by omega)]
    by_cases e1 : r = k ∧ c < n - 1
    · rw [if_pos e1, if_pos (by omega), e1.1]
    · rw [if_neg e1]
      by_cases e2 : r < k ∧ c < n - 1
      · rw [if_pos e2, if_pos (by omega)]
      · rw [if_neg e2, if_neg (by omega)]
/-- a state goes -/
def skM (n s : Nat) (m : Nat → Nat → Nat) : Nat → Nat → Nat := fun i j => if i < n - 1 ∧ j < n - 1 then m (sk s i) (sk s j) else 0
theorem mv_less {n k : Nat} (a : Nat → Nat) (h : k ≤ n) (r c : Nat) : mv k a r c = if r < k ∧ c < k then mv n a r c else 0 := by
  by_cases e : r < k ∧ c < k
  · rw [if_pos e, mv_in e.1 e.2, mv_in (by omega) (by omega)]
  · rw [if_neg e, mv_out e]
theorem mv_rm {n s : Nat} (hn : n ≤ 6) (a : Nat → Nat) : mv (n - 1) (rmF n s a) = skM n s (mv n a) := by
  funext r c
  rw [mv_less (n := n) (k := n - 1) _ (by omega), rmF, mv_rmR hn a (n - 1) (Nat.le_refl _), skM]
  by_cases e : r < n - 1 ∧ c < n - 1
  · rw [if_pos e, if_pos e, if_pos e]
  · rw [if_neg e, if_neg e]
def mgM (lo hi : Nat) (m : Nat → Nat → Nat) : Nat → Nat → Nat := fun i j => if i = lo then m lo j + m hi j else m i j
theorem mv_mgR {n lo hi : Nat} (hn : n ≤ 6) (a : Nat → Nat) (hlo : lo < n) (hne : lo ≠ hi) : ∀ k, k ≤ n → ∀ r c, mv n (mgR n lo hi k a) r c = if r = lo ∧ c < k then mv n a lo c + mv n a hi c else mv n a r c
  | 0, _, r, c => by rw [if_neg (by omega)]; rfl
  | k + 1, hk, r, c => by
    have ih := mv_mgR hn a hlo hne k (by omega)
    show mv n (pu n (mgR n lo hi k a) lo k (mv n (mgR n lo hi k a) lo k + mv n (mgR n lo hi k a) hi k)) r c = _
    rw [mv_pu hn hlo (by omega), ih, ih, ih, if_neg (show ¬ (lo = lo ∧ k < k) by omega), if_neg (show ¬ (hi = lo ∧ k < k) by omega)]
    by_cases e1 : r = lo ∧ c = k
    · rw [if_pos e1, if_pos (by omega), e1.2]
    · rw [if_neg e1]
      by_cases e2 : r = lo ∧ c < k
      · rw [if_pos e2, if_pos (by omega)]
      · rw [if_neg e2, if_neg (by omega)]
theorem mv_mg {n lo hi : Nat} (hn : n ≤ 6) (a : Nat → Nat) (hlo : lo < n) (hne : lo ≠ hi) : mv (n - 1) (mgF n lo hi a) = skM n hi (mgM lo hi (mv n a)) := by
  rw [mgF, mv_rm hn]
  have : mv n (mgR n lo hi n a) = mgM lo hi (mv n a) := by
    funext r c
    rw [mv_mgR hn a hlo hne n (Nat.le_refl n), mgM]
    by_cases e : r = lo ∧ c < n
    · rw [if_pos e, if_pos e.1]
    · rw [if_neg e]
      by_cases e2 : r = lo
      · rw [if_pos e2, mv_out (by omega), mv_out (by omega), mv_out (by omega)]
      · rw [if_neg e2]
  rw [this]
/-- a split: the new state's row has the shares, its column is the old state's -/
def spM (n s : Nat) (sh : Nat → Nat) (m : Nat → Nat → Nat) : Nat → Nat → Nat := fun i j =>
  let row := fun j => if i = s then m s j - sh j else if i = n then sh j else m i j
  if i < n + 1 ∧ j < n then row j else if i < n + 1 ∧ j = n then row s else 0
theorem mv_spR {n s : Nat} (hn : n ≤ 5) (sh a : Nat → Nat) (hs : s < n) : ∀ k, k ≤ n → ∀ r c, r < n + 1 → c < n → mv (n + 1) (spF n s sh k a) r c = if r = s ∧ c < k then mv n a s c - sh c else if r = n ∧ c < k then sh c else mv (n + 1) a r c
  | 0, _, r, c, _, _ => by rw [if_neg (by omega), if_neg (by omega)]; rfl
  | k + 1, hk, r, c, hr, hc => by
    have ih := mv_spR hn sh a hs k (by omega)
    show mv (n + 1) (pu (n + 1) (pu (n + 1) (spF n s sh k a) s k (mv (n + 1) (spF n s sh k a) s k - sh k)) n k (sh k)) r c = _
    rw [mv_pu (by omega) (by omega) (by omega), mv_pu (by omega) (by omega) (by omega), ih r c hr hc, ih s k (by omega) (by omega), if_neg (show ¬ (s = s ∧ k < k) by omega), if_neg (show ¬ (s = n ∧ k < k) by omega)]
    by_cases e1 : r = n ∧ c = k
    · rw [if_pos e1, if_neg (by omega), if_pos (by omega), e1.2]
    · rw [if_neg e1]
      by_cases e2 : r = s ∧ c = k
      · rw [if_pos e2, if_pos (by omega), e2.2, mv_in (by omega) (by omega), mv_in hs (by omega)]
      · rw [if_neg e2]
        by_cases e3 : r = s ∧ c < k
        · rw [if_pos e3, if_pos (by omega)]
        · rw [if_neg e3, if_neg (show ¬ (r = s ∧ c < k + 1) by omega)]
          by_cases e4 : r = n ∧ c < k
          · rw [if_pos e4, if_pos (by omega)]
          · rw [if_neg e4, if_neg (by omega)]
theorem mv_spC {n s : Nat} (hn : n ≤ 5) (a : Nat → Nat) (hs : s < n) : ∀ k, k ≤ n + 1 → ∀ r c, mv (n + 1) (it (fun i a => pu (n + 1) a i n (mv (n + 1) a i s)) k a) r c = if c = n ∧ r < k then mv (n + 1) a r s else mv (n + 1) a r c
  | 0, _, r, c => by rw [if_neg (by omega)]; rfl
  | k + 1, hk, r, c => by
    have ih := mv_spC hn a hs k (by omega)
    show mv (n + 1) (pu (n + 1) (it (fun i a => pu (n + 1) a i n (mv (n + 1) a i s)) k a) k n _) r c = _
    rw [mv_pu (by omega) (by omega) (by omega), ih, ih, if_neg (show ¬ (s = n ∧ k < k) by omega)]
    by_cases e1 : r = k ∧ c = n
    · rw [if_pos e1, if_pos (by omega), e1.1]
    · rw [if_neg e1]
      by_cases e2 : c = n ∧ r < k
      · rw [if_pos e2, if_pos (by omega)]
      · rw [if_neg e2, if_neg (by omega)]
theorem mv_split {n s : Nat} (hn : n ≤ 5) (sh a : Nat → Nat) (hs : s < n) : mv (n + 1) (splitF n s sh a) = spM n s sh (mv n a) := by
  funext r c
  have hsp := mv_spR hn sh a hs n (Nat.le_refl n)
  have key : ∀ c, r < n + 1 → c < n → mv (n + 1) (spF n s sh n a) r c = if r = s then mv n a s c - sh c else if r = n then sh c else mv n a r c := by
    intro c hr hc
    rw [hsp r c hr hc]
    by_cases e : r = s
    · rw [if_pos ⟨e, hc⟩, if_pos e]
    · rw [if_neg (by omega), if_neg e]
      by_cases e2 : r = n
      · rw [if_pos ⟨e2, hc⟩, if_pos e2]
      · rw [if_neg (by omega), if_neg e2, mv_in hr (by omega), mv_in (by omega) hc]
  show mv (n + 1) (it (fun i a => pu (n + 1) a i n (mv (n + 1) a i s)) (n + 1) (spF n s sh n a)) r c = _
  rw [mv_spC hn _ hs (n + 1) (Nat.le_refl _), spM]
  by_cases e1 : c = n ∧ r < n + 1
  · rw [if_pos e1, key s e1.2 hs]
    rw [if_neg (show ¬ (r < n + 1 ∧ c < n) by omega), if_pos (show r < n + 1 ∧ c = n from ⟨e1.2, e1.1⟩)]
  · rw [if_neg e1]
    by_cases e2 : r < n + 1 ∧ c < n
    · rw [key c e2.1 e2.2, if_pos e2]
    · rw [if_neg e2, if_neg (by omega), mv_out (by omega)]
/-- the greatest entry -/
theorem gcI_ge (m : Nat → Nat → Nat) (i : Nat) : ∀ k g, g ≤ it (fun j g => Nat.max g (m i j)) k g ∧ ∀ j, j < k → m i j ≤ it (fun j g => Nat.max g (m i j)) k g
  | 0, g => ⟨Nat.le_refl g, fun j h => absurd h (Nat.not_lt_zero j)⟩
  | k + 1, g => by
    obtain ⟨h1, h2⟩ := gcI_ge m i k g
    have e : it (fun j g => Nat.max g (m i j)) (k + 1) g = Nat.max (it (fun j g => Nat.max g (m i j)) k g) (m i k) := rfl
    have a1 := Nat.le_max_left (it (fun j g => Nat.max g (m i j)) k g) (m i k)
    have a2 := Nat.le_max_right (it (fun j g => Nat.max g (m i j)) k g) (m i k)
    rw [e]
    refine ⟨Nat.le_trans h1 a1, fun j hj => ?_⟩
    rcases Nat.lt_succ_iff_lt_or_eq.mp hj with q | q
    · exact Nat.le_trans (h2 j q) a1
    · rw [q]; exact a2
theorem gcF_ge (n : Nat) (m : Nat → Nat → Nat) : ∀ k i j, i < k → j < n → m i j ≤ gcF n m k
  | 0, i, j, h, _ => absurd h (Nat.not_lt_zero i)
  | k + 1, i, j, h, hj => by
    obtain ⟨h1, h2⟩ := gcI_ge m k n (gcF n m k)
    rcases Nat.lt_succ_iff_lt_or_eq.mp h with q | q
    · exact Nat.le_trans (gcF_ge n m k i j q hj) h1
    · rw [q]; exact h2 j hj
theorem gcI_le (m : Nat → Nat → Nat) (i b : Nat) : ∀ k g, g ≤ b → (∀ j, j < k → m i j ≤ b) → it (fun j g => Nat.max g (m i j)) k g ≤ b
  | 0, _, h, _ => h
  | k + 1, g, h, h2 => Nat.max_le.mpr ⟨gcI_le m i b k g h (fun j hj => h2 j (by omega)), h2 k (by omega)⟩
theorem gcF_le (n : Nat) (m : Nat → Nat → Nat) (b : Nat) : ∀ k, (∀ i j, i < k → j < n → m i j ≤ b) → gcF n m k ≤ b
  | 0, _ => Nat.zero_le b
  | k + 1, h => gcI_le m k b n _ (gcF_le n m b k (fun i j hi hj => h i j (by omega) hj)) (fun j hj => h k j (by omega) hj)
/-! the state that both sides show -/
abbrev AM : Type := Nat × (Nat → Nat → Nat)
abbrev AS : Type := AM × AM × List (AM × AM) × (Nat → Nat)
def amB (n : Nat) (a : Nat → Nat) : AM := (n, mv n a)
def hiB (nw ct : Nat) (hn : Nat → Nat) (ha : Nat → Nat → Nat) : List (AM × AM) := (List.range ct).map (fun k => (amB (hn (2 * ((nw + 4 - k) % 4))) (ha (2 * ((nw + 4 - k) % 4))), amB (hn (2 * ((nw + 4 - k) % 4) + 1)) (ha (2 * ((nw + 4 - k) % 4) + 1))))
abbrev CS : Type := Nat × (Nat → Nat) × Nat × (Nat → Nat) × Nat × Nat × (Nat → Nat) × (Nat → Nat → Nat) × (Nat → Nat)
def asB (c : CS) : AS := (amB c.1 c.2.1, amB c.2.2.1 c.2.2.2.1, hiB c.2.2.2.2.1 c.2.2.2.2.2.1 c.2.2.2.2.2.2.1 c.2.2.2.2.2.2.2.1, c.2.2.2.2.2.2.2.2)
def BIc (c : CS) : Prop := BI c.1 c.2.1 c.2.2.1 c.2.2.2.1 c.2.2.2.2.1 c.2.2.2.2.2.1 c.2.2.2.2.2.2.1 c.2.2.2.2.2.2.2.1 c.2.2.2.2.2.2.2.2
def kpS (s : AS) : List (AM × AM) := ((s.1, s.2.1) :: s.2.2.1).take 4
abbrev rmN (hn : Nat → Nat) (nw n n1 : Nat) : Nat → Nat := upH (upH hn (2 * ((nw + 1) % 4)) n) (2 * ((nw + 1) % 4) + 1) n1
abbrev rmA (ha : Nat → Nat → Nat) (nw n : Nat) (a : Nat → Nat) (n1 : Nat) (a1 : Nat → Nat) : Nat → Nat → Nat := upH (upH ha (2 * ((nw + 1) % 4)) (copyF n (mv n a) n (ha (2 * ((nw + 1) % 4))))) (2 * ((nw + 1) % 4) + 1) (copyF n1 (mv n1 a1) n1 (ha (2 * ((nw + 1) % 4) + 1)))
theorem hiB_rem {nw ct n n1 : Nat} {hn : Nat → Nat} {ha : Nat → Nat → Nat} {a a1 : Nat → Nat} (hnw : nw < 4) (hct : ct ≤ 4) (h2 : n ≤ 6) (h4 : n1 ≤ 6) : hiB ((nw + 1) % 4) (Nat.min (ct + 1) 4) (rmN hn nw n n1) (rmA ha nw n a n1 a1) = ((amB n a, amB n1 a1) :: hiB nw ct hn ha).take 4 := by
  have e0 : mv n (copyF n (mv n a) n (ha (2 * ((nw + 1) % 4)))) = mv n a := mv_copy h2 a _
  have e1 : mv n1 (copyF n1 (mv n1 a1) n1 (ha (2 * ((nw + 1) % 4) + 1))) = mv n1 a1 := mv_copy h4 a1 _
  apply List.ext_getElem?
  intro k
  have hmin : Nat.min (ct + 1) 4 = min (ct + 1) 4 := rfl
  rw [hiB, List.getElem?_map, hmin]
  by_cases hk : k < min (ct + 1) 4
  · rw [List.getElem?_range hk, List.getElem?_take_of_lt (by omega)]
    rcases Nat.eq_zero_or_pos k with rfl | hk0
    · have hz : ((nw + 1) % 4 + 4 - 0) % 4 = (nw + 1) % 4 := by omega
      simp only [Option.map_some, List.getElem?_cons_zero, hz, amB, rmN, rmA]
      have g1 : upH (upH hn (2 * ((nw + 1) % 4)) n) (2 * ((nw + 1) % 4) + 1) n1 (2 * ((nw + 1) % 4)) = n := by simp [upH]
      have g2 : upH (upH hn (2 * ((nw + 1) % 4)) n) (2 * ((nw + 1) % 4) + 1) n1 (2 * ((nw + 1) % 4) + 1) = n1 := by simp [upH]
      have g3 : upH (upH ha (2 * ((nw + 1) % 4)) (copyF n (mv n a) n (ha (2 * ((nw + 1) % 4))))) (2 * ((nw + 1) % 4) + 1) (copyF n1 (mv n1 a1) n1 (ha (2 * ((nw + 1) % 4) + 1))) (2 * ((nw + 1) % 4)) = copyF n (mv n a) n (ha (2 * ((nw + 1) % 4))) := by simp [upH]
      have g4 : upH (upH ha (2 * ((nw + 1) % 4)) (copyF n (mv n a) n (ha (2 * ((nw + 1) % 4))))) (2 * ((nw + 1) % 4) + 1) (copyF n1 (mv n1 a1) n1 (ha (2 * ((nw + 1) % 4) + 1))) (2 * ((nw + 1) % 4) + 1) = copyF n1 (mv n1 a1) n1 (ha (2 * ((nw + 1) % 4) + 1)) := by simp [upH]
      rw [g1, g2, g3, g4, e0, e1]
    · obtain ⟨j, rfl⟩ : ∃ j, k = j + 1 := ⟨k - 1, by omega⟩
      rw [List.getElem?_cons_succ, hiB, List.getElem?_map, List.getElem?_range (show j < ct by omega)]
      have hz : ((nw + 1) % 4 + 4 - (j + 1)) % 4 = (nw + 4 - j) % 4 := by omega
      have hne : (nw + 4 - j) % 4 ≠ (nw + 1) % 4 := by omega
      simp only [Option.map_some, hz, rmN, rmA]
      have f1 : ∀ (α : Type) (f : Nat → α) (x y : α), upH (upH f (2 * ((nw + 1) % 4)) x) (2 * ((nw + 1) % 4) + 1) y (2 * ((nw + 4 - j) % 4)) = f (2 * ((nw + 4 - j) % 4)) := by
        intro α f x y
        simp only [upH]
        rw [if_neg (by omega), if_neg (by omega)]
      have f2 : ∀ (α : Type) (f : Nat → α) (x y : α), upH (upH f (2 * ((nw + 1) % 4)) x) (2 * ((nw + 1) % 4) + 1) y (2 * ((nw + 4 - j) % 4) + 1) = f (2 * ((nw + 4 - j) % 4) + 1) := by
        intro α f x y
        simp only [upH]
        rw [if_neg (by omega), if_neg (by omega)]
      rw [f1, f1, f2, f2]
  · rw [List.getElem?_eq_none (by simp; omega), Option.map_none, List.getElem?_eq_none (by simp [hiB]; omega)]
theorem hiB_und {nw ct : Nat} {hn : Nat → Nat} {ha : Nat → Nat → Nat} (hnw : nw < 4) (hct : ct ≤ 4) (hc0 : 0 < ct) : hiB nw ct hn ha = (amB (hn (2 * nw)) (ha (2 * nw)), amB (hn (2 * nw + 1)) (ha (2 * nw + 1))) :: hiB ((nw + 4 - 1) % 4) (ct - 1) hn ha := by
  apply List.ext_getElem?
  intro k
  rcases Nat.eq_zero_or_pos k with rfl | hk0
  · rw [hiB, List.getElem?_map, List.getElem?_range hc0, List.getElem?_cons_zero]
    simp only [Option.map_some]
    rw [show (nw + 4 - 0) % 4 = nw by omega]
  · obtain ⟨j, rfl⟩ : ∃ j, k = j + 1 := ⟨k - 1, by omega⟩
    rw [List.getElem?_cons_succ, hiB, hiB, List.getElem?_map, List.getElem?_map]
    by_cases hj : j < ct - 1
    · rw [List.getElem?_range (show j + 1 < ct by omega), List.getElem?_range hj]
      simp only [Option.map_some]
      rw [show (nw + 4 - (j + 1)) % 4 = ((nw + 4 - 1) % 4 + 4 - j) % 4 by omega]
    · rw [List.getElem?_eq_none (l := List.range ct) (by simp; omega), List.getElem?_eq_none (l := List.range (ct - 1)) (by simp; omega), Option.map_none, Option.map_none]
