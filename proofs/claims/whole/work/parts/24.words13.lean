/-! words of the thirteenth part: a state goes, in the reference's rows -/
theorem goI_at (s i : Nat) (w : Nat → Nat) : ∀ k x, goI s i k w x = if 1 + 6 * i + s ≤ x ∧ x < 1 + 6 * i + s + k then w (x + 1) else w x
  | 0, x => by rw [if_neg (by omega)]; rfl
  | k + 1, x => by
    show updN (goI s i k w) (1 + 6 * i + (s + k)) (goI s i k w (1 + 6 * i + (s + k + 1))) x = _
    simp only [updN]
    rw [goI_at s i w k, goI_at s i w k, if_neg (show ¬ (1 + 6 * i + s ≤ 1 + 6 * i + (s + k + 1) ∧ 1 + 6 * i + (s + k + 1) < 1 + 6 * i + s + k) by omega)]
    by_cases e : x = 1 + 6 * i + (s + k)
    · rw [if_pos e, if_pos (by omega), e]; rfl
    · rw [if_neg e]
      by_cases e2 : 1 + 6 * i + s ≤ x ∧ x < 1 + 6 * i + s + k
      · rw [if_pos e2, if_pos (by omega)]
      · rw [if_neg e2, if_neg (by omega)]
theorem goF_at {s n : Nat} (hs : s < n) (hn : n ≤ 6) (w : Nat → Nat) : ∀ k, k ≤ 6 → ∀ i j, i < 6 → j < 6 → goF s n k w (1 + 6 * i + j) = if i < k ∧ s ≤ j ∧ j < n - 1 then w (1 + 6 * i + (j + 1)) else w (1 + 6 * i + j)
  | 0, _, i, j, _, _ => by rw [if_neg (by omega)]; rfl
  | k + 1, hk, i, j, hi, hj => by
    show goI s k (n - 1 - s) (goF s n k w) (1 + 6 * i + j) = _
    rw [goI_at]
    by_cases e : i = k
    · subst e
      by_cases e2 : s ≤ j ∧ j < n - 1
      · rw [if_pos (by omega), if_pos (by omega), show 1 + 6 * i + j + 1 = 1 + 6 * i + (j + 1) by omega, goF_at hs hn w i (by omega) i (j + 1) hi (by omega), if_neg (by omega)]
      · rw [if_neg (by omega), if_neg (by omega), goF_at hs hn w i (by omega) i j hi hj, if_neg (by omega)]
    · rw [if_neg (by omega), goF_at hs hn w k (by omega) i j hi hj]
      by_cases e2 : i < k ∧ s ≤ j ∧ j < n - 1
      · rw [if_pos e2, if_pos (by omega)]
      · rw [if_neg e2, if_neg (by omega)]
theorem goF_hi {s n : Nat} (hs : s < n) (hn : n ≤ 6) (w : Nat → Nat) {x : Nat} (h : x = 0 ∨ 37 ≤ x) : ∀ k, k ≤ 6 → goF s n k w x = w x
  | 0, _ => rfl
  | k + 1, hk => by
    show goI s k (n - 1 - s) (goF s n k w) x = _
    rw [goI_at, if_neg (by omega), goF_hi hs hn w h k (by omega)]
theorem guI_at (i : Nat) (w : Nat → Nat) : ∀ k, k ≤ 6 → ∀ x, guI i k w x = if 1 + 6 * i ≤ x ∧ x < 1 + 6 * i + k then w (x + 6) else w x
  | 0, _, x => by rw [if_neg (by omega)]; rfl
  | k + 1, hk, x => by
    show updN (guI i k w) (1 + 6 * i + k) (guI i k w (1 + 6 * (i + 1) + k)) x = _
    simp only [updN]
    rw [guI_at i w k (by omega), guI_at i w k (by omega), if_neg (show ¬ (1 + 6 * i ≤ 1 + 6 * (i + 1) + k ∧ 1 + 6 * (i + 1) + k < 1 + 6 * i + k) by omega)]
    by_cases e : x = 1 + 6 * i + k
    · rw [if_pos e, if_pos (by omega), e, show 1 + 6 * (i + 1) + k = 1 + 6 * i + k + 6 by omega]
    · rw [if_neg e]
      by_cases e2 : 1 + 6 * i ≤ x ∧ x < 1 + 6 * i + k
      · rw [if_pos e2, if_pos (by omega)]
      · rw [if_neg e2, if_neg (by omega)]
theorem guF_at {s n : Nat} (hn : n ≤ 6) (w : Nat → Nat) : ∀ k, s + k ≤ 5 → ∀ i j, i < 6 → j < n → guF s n k w (1 + 6 * i + j) = if s ≤ i ∧ i < s + k then w (1 + 6 * (i + 1) + j) else w (1 + 6 * i + j)
  | 0, _, i, j, _, _ => by rw [if_neg (by omega)]; rfl
  | k + 1, hk, i, j, hi, hj => by
    show guI (s + k) n (guF s n k w) (1 + 6 * i + j) = _
    rw [guI_at _ _ n hn]
    by_cases e : i = s + k
    · rw [if_pos (by omega), if_pos (by omega), show 1 + 6 * i + j + 6 = 1 + 6 * (i + 1) + j by omega, guF_at hn w k (by omega) (i + 1) j (by omega) hj, if_neg (by omega)]
    · rw [if_neg (by omega), guF_at hn w k (by omega) i j hi hj]
      by_cases e2 : s ≤ i ∧ i < s + k
      · rw [if_pos e2, if_pos (by omega)]
      · rw [if_neg e2, if_neg (by omega)]
theorem guF_hi {s n : Nat} (hn : n ≤ 6) (w : Nat → Nat) {x : Nat} (h : x = 0 ∨ 37 ≤ x) : ∀ k, s + k ≤ 5 → guF s n k w x = w x
  | 0, _ => rfl
  | k + 1, hk => by
    show guI (s + k) n (guF s n k w) x = _
    rw [guI_at _ _ n hn, if_neg (by omega), guF_hi hn w h k (by omega)]
theorem goM_0 {s : Nat} {w : Nat → Nat} : goM s w 0 = w 0 - 1 := by
  unfold goM
  rw [clF_hi _ 0 (Or.inl rfl) 6 (by omega)]
  simp only [updN, if_true]
theorem goM_hi {s : Nat} {w : Nat → Nat} (hs : s < w 0) (h6 : w 0 ≤ 6) {x : Nat} (h : 37 ≤ x) : goM s w x = w x := by
  unfold goM
  rw [clF_hi _ x (Or.inr h) 6 (by omega)]
  simp only [updN]
  rw [if_neg (by omega), guF_hi h6 _ (Or.inr h) _ (by omega), goF_hi hs h6 _ (Or.inr h) _ h6]
theorem goM_at {s : Nat} {w : Nat → Nat} (hs : s < w 0) (h6 : w 0 ≤ 6) {i j : Nat} (hi : i < 6) (hj : j < 6) : goM s w (1 + 6 * i + j) = if i < w 0 - 1 ∧ j < w 0 - 1 then w (1 + 6 * sk s i + sk s j) else 0 := by
  unfold goM
  rw [clF_at _ 6 (by omega) i j hi hj]
  have e0 : updN (guF s (w 0) (w 0 - 1 - s) (goF s (w 0) (w 0) w)) 0 (w 0 - 1) 0 = w 0 - 1 := by simp only [updN, if_true]
  rw [e0]
  by_cases e : i < w 0 - 1 ∧ j < w 0 - 1
  · rw [if_neg (fun h => h.2 e), if_pos e]
    simp only [updN]
    rw [if_neg (by omega), guF_at h6 _ _ (by omega) i j hi (by omega), goF_at hs h6 w _ h6 (i + 1) j (by omega) hj, goF_at hs h6 w _ h6 i j hi hj]
    unfold sk
    by_cases e1 : i < s <;> by_cases e2 : j < s
    · rw [if_neg (by omega), if_neg (by omega), if_pos e1, if_pos e2]
    · rw [if_neg (by omega), if_pos (by omega), if_pos e1, if_neg e2]
    · rw [if_pos (by omega), if_neg (by omega), if_neg e1, if_pos e2]
    · rw [if_pos (by omega), if_pos (by omega), if_neg e1, if_neg e2]
  · rw [if_pos ⟨hi, e⟩, if_neg e]
theorem am_goes {s : Nat} {w : Nat → Nat} (hs : s < w 0) (h6 : w 0 ≤ 6) : amM (goM s w) 0 = (w 0 - 1, skM (w 0) s (rvV w 0)) := by
  refine amM_ext goM_0 fun i j => ?_
  unfold skM
  by_cases e : i < w 0 - 1 ∧ j < w 0 - 1
  · rw [if_pos e, if_pos e, Nat.zero_add, goM_at hs h6 (by omega) (by omega), if_pos e]
    unfold rvV
    have h1 : sk s i < w 0 := by unfold sk; split <;> omega
    have h2 : sk s j < w 0 := by unfold sk; split <;> omega
    rw [if_pos ⟨h1, h2⟩, Nat.zero_add]
  · rw [if_neg e, if_neg e]
theorem am_goes2 {s : Nat} {w : Nat → Nat} (hs : s < w 0) (h6 : w 0 ≤ 6) (h : w 37 ≤ 6) : amM (goM s w) 37 = amM w 37 :=
  amM_shift h fun x hx => goM_hi hs h6 (by omega)
theorem goM_le {w : Nat → Nat} (h : ∀ x, w x ≤ 9) (s x : Nat) : goM s w x ≤ 9 := clF_le (goM_pre h s) 6 x
theorem MI_goes {nw bf sh : Nat → Nat} {um s : Nat} (hI : MI nw bf sh um) (hs : s < nw 0) (h2 : 2 ≤ nw 0) : MI (goM s nw) bf sh um := by
  obtain ⟨g1, g3, hN, hB, hS, hu, hz, hbz⟩ := hI
  refine ⟨by rw [goM_0]; omega, by rw [goM_hi hs g1.2 (by omega)]; exact g3, goM_le hN s, hB, hS, hu, fun b hb i j hi hj hij => ?_, hbz⟩
  rcases hb with rfl | rfl
  · rw [goM_0] at hij
    rw [Nat.zero_add, goM_at hs g1.2 hi hj, if_neg hij]
  · rw [goM_hi hs g1.2 (by omega)] at hij
    rw [goM_hi hs g1.2 (by omega)]
    exact hz 37 (Or.inr rfl) i j hi hj hij
