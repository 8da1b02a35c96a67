/-! words of the twelfth part: the reference's reaching sets -/
def rwI (nw : Nat → Nat) (i k : Nat) (r : Nat → Nat) : Nat → Nat := it (fun j r => updN r i (r i ||| (if 0 < nw (1 + 6 * i + j) then 2 ^ j else 0))) k (updN r i 0)
def rwF (nw : Nat → Nat) (k : Nat) (rc : Nat → Nat) : Nat → Nat := it (fun i r => rwI nw i (nw 0) r) k rc
def waI (k i : Nat) (r : Nat → Nat) : Nat → Nat := it (fun i r => updN r i (r i ||| (if (r i).testBit k = true then r k else 0))) i r
def waF (n k : Nat) (r : Nat → Nat) : Nat → Nat := it (fun k r => waI k n r) k r
def rchF (nw rc : Nat → Nat) : Nat → Nat := waF (nw 0) (nw 0) (rwF nw (nw 0) rc)
theorem or_b64 {a b : Nat} (ha : a < 64) (hb : b < 64) : a ||| b < 64 := Nat.or_lt_two_pow (n := 6) ha hb
theorem rwI_ne {nw r : Nat → Nat} {i x : Nat} (hx : x ≠ i) : ∀ k, rwI nw i k r x = r x
  | 0 => by show updN r i 0 x = _; simp only [updN]; rw [if_neg hx]
  | k + 1 => by
    show updN (rwI nw i k r) i _ x = _
    simp only [updN]; rw [if_neg hx]; exact rwI_ne hx k
theorem rwI_lt {nw r : Nat → Nat} {i : Nat} : ∀ k, k ≤ 6 → rwI nw i k r i < 64
  | 0, _ => by show updN r i 0 i < 64; simp [updN]
  | k + 1, hk => by
    show updN (rwI nw i k r) i _ i < 64
    simp only [updN, if_true]
    refine or_b64 (rwI_lt k (by omega)) ?_
    split
    · exact Nat.pow_lt_pow_right (n := 6) (by decide) (by omega)
    · decide
theorem rwF_lt {nw r : Nat → Nat} (h6 : nw 0 ≤ 6) : ∀ k x, x < k → rwF nw k r x < 64
  | 0, x, h => by omega
  | k + 1, x, h => by
    show rwI nw k (nw 0) (rwF nw k r) x < 64
    by_cases e : x = k
    · subst e; exact rwI_lt _ h6
    · rw [rwI_ne e]; exact rwF_lt h6 k x (by omega)
theorem waI_lt {r : Nat → Nat} {n k : Nat} (hk : k < n) (h : ∀ x, x < n → r x < 64) : ∀ i, ∀ x, x < n → waI k i r x < 64
  | 0, x, hx => h x hx
  | i + 1, x, hx => by
    show updN (waI k i r) i _ x < 64
    simp only [updN]
    split
    · next e =>
      subst e
      refine or_b64 (waI_lt hk h x x hx) ?_
      split
      · exact waI_lt hk h x k hk
      · decide
    · exact waI_lt hk h i x hx
theorem waF_lt {r : Nat → Nat} {n : Nat} (h : ∀ x, x < n → r x < 64) : ∀ k, k ≤ n → ∀ x, x < n → waF n k r x < 64
  | 0, _, x, hx => h x hx
  | k + 1, hk, x, hx => waI_lt (by omega) (waF_lt h k (by omega)) n x hx
theorem rch_lt {nw rc : Nat → Nat} (h6 : nw 0 ≤ 6) {x : Nat} (hx : x < nw 0) : rchF nw rc x < 64 :=
  waF_lt (fun x hx => rwF_lt h6 _ x hx) _ (Nat.le_refl _) x hx
theorem wak_lt {nw rc : Nat → Nat} (h6 : nw 0 ≤ 6) {k i x : Nat} (hk : k < nw 0) (hx : x < nw 0) : waI k i (waF (nw 0) k (rwF nw (nw 0) rc)) x < 64 :=
  waI_lt hk (waF_lt (fun x hx => rwF_lt h6 _ x hx) k (by omega)) i x hx
def cyF (r : Nat → Nat) (k : Nat) : Nat := it (fun i s => s ||| (if (r i).testBit i = true then 2 ^ i else 0)) k 0
def enI (r : Nat → Nat) (cy i k : Nat) : Bool := it (fun c b => b || (cy.testBit c && (r c).testBit i)) k (cy.testBit i)
def bgI (r : Nat → Nat) (cy i : Nat) : Bool := cy.testBit i || decide (r i &&& cy ≠ 0)
def eqF (r : Nat → Nat) (cy n k : Nat) : Nat := it (fun i s => s ||| (if (enI r cy i n && bgI r cy i) = true then 2 ^ i else 0)) k 0
def esM (nw rc : Nat → Nat) : Nat := eqF (rchF nw rc) (cyF (rchF nw rc) (nw 0)) (nw 0) (nw 0)
theorem cyF_lt {r : Nat → Nat} : ∀ k, k ≤ 6 → cyF r k < 64
  | 0, _ => by show (0 : Nat) < 64; decide
  | k + 1, hk => by
    refine or_b64 (cyF_lt k (by omega)) ?_
    split
    · exact Nat.pow_lt_pow_right (n := 6) (by decide) (by omega)
    · decide
theorem eqF_lt {r : Nat → Nat} {cy n : Nat} : ∀ k, k ≤ 6 → eqF r cy n k < 64
  | 0, _ => by show (0 : Nat) < 64; decide
  | k + 1, hk => by
    refine or_b64 (eqF_lt k (by omega)) ?_
    split
    · exact Nat.pow_lt_pow_right (n := 6) (by decide) (by omega)
    · decide
def clI (i k : Nat) (w : Nat → Nat) : Nat → Nat := it (fun j w => updN w (1 + 6 * i + j) (if i < w 0 ∧ j < w 0 then w (1 + 6 * i + j) else 0)) k w
def clF (k : Nat) (w : Nat → Nat) : Nat → Nat := it (fun i w => clI i 6 w) k w
theorem clI_le {w : Nat → Nat} (h : ∀ x, w x ≤ 9) (i : Nat) : ∀ k x, clI i k w x ≤ 9
  | 0, x => h x
  | k + 1, x => by
    show updN (clI i k w) _ _ x ≤ 9
    simp only [updN]
    split
    · split
      · exact clI_le h i k _
      · omega
    · exact clI_le h i k x
theorem clF_le {w : Nat → Nat} (h : ∀ x, w x ≤ 9) : ∀ k x, clF k w x ≤ 9
  | 0, x => h x
  | k + 1, x => clI_le (clF_le h k) k 6 x
theorem clI_at (w : Nat → Nat) (i : Nat) : ∀ k x, clI i k w x = if 1 + 6 * i ≤ x ∧ x < 1 + 6 * i + k ∧ ¬ (i < w 0 ∧ x - (1 + 6 * i) < w 0) then 0 else w x
  | 0, x => by rw [if_neg (by omega)]; rfl
  | k + 1, x => by
    have e0 : clI i k w 0 = w 0 := by rw [clI_at w i k, if_neg (by omega)]
    show updN (clI i k w) (1 + 6 * i + k) (if i < clI i k w 0 ∧ k < clI i k w 0 then clI i k w (1 + 6 * i + k) else 0) x = _
    simp only [updN]
    rw [e0, clI_at w i k, clI_at w i k, if_neg (show ¬ (1 + 6 * i ≤ 1 + 6 * i + k ∧ 1 + 6 * i + k < 1 + 6 * i + k ∧ _) from fun h => by omega)]
    by_cases e : x = 1 + 6 * i + k
    · rw [if_pos e, e, show 1 + 6 * i + k - (1 + 6 * i) = k by omega]
      by_cases e2 : i < w 0 ∧ k < w 0
      · rw [if_pos e2, if_neg (fun h => h.2.2 e2)]
      · rw [if_neg e2, if_pos ⟨by omega, by omega, e2⟩]
    · rw [if_neg e]
      by_cases e2 : 1 + 6 * i ≤ x ∧ x < 1 + 6 * i + k ∧ ¬ (i < w 0 ∧ x - (1 + 6 * i) < w 0)
      · rw [if_pos e2, if_pos ⟨e2.1, by omega, e2.2.2⟩]
      · rw [if_neg e2, if_neg (fun h => e2 ⟨h.1, by omega, h.2.2⟩)]
theorem clI_hi (w : Nat → Nat) (i k x : Nat) (h : x = 0 ∨ 37 ≤ x) (hi : i < 6) (hk : k ≤ 6) : clI i k w x = w x := by
  rw [clI_at, if_neg (by omega)]
theorem clF_hi (w : Nat → Nat) (x : Nat) (h : x = 0 ∨ 37 ≤ x) : ∀ k, k ≤ 6 → clF k w x = w x
  | 0, _ => rfl
  | k + 1, hk => by
    show clI k 6 (clF k w) x = _
    rw [clI_hi _ k 6 x h (by omega) (by omega), clF_hi w x h k (by omega)]
/-- after cleaning: beyond the size is 0, all else stays -/
theorem clF_at (w : Nat → Nat) : ∀ k, k ≤ 6 → ∀ i j, i < 6 → j < 6 → clF k w (1 + 6 * i + j) = if i < k ∧ ¬ (i < w 0 ∧ j < w 0) then 0 else w (1 + 6 * i + j)
  | 0, _, i, j, hi, hj => by rw [if_neg (by omega)]; rfl
  | k + 1, hk, i, j, hi, hj => by
    show clI k 6 (clF k w) (1 + 6 * i + j) = _
    rw [clI_at, clF_hi w 0 (Or.inl rfl) k (by omega), clF_at w k (by omega) i j hi hj]
    by_cases e : i = k
    · subst e
      rw [if_neg (show ¬ (i < i ∧ ¬ (i < w 0 ∧ j < w 0)) from fun h => by omega), show 1 + 6 * i + j - (1 + 6 * i) = j by omega]
      by_cases e2 : i < w 0 ∧ j < w 0
      · rw [if_neg (fun h => h.2.2 e2), if_neg (fun h => h.2 e2)]
      · rw [if_pos ⟨by omega, by omega, e2⟩, if_pos ⟨by omega, e2⟩]
    · rw [if_neg (show ¬ (1 + 6 * k ≤ 1 + 6 * i + j ∧ 1 + 6 * i + j < 1 + 6 * k + 6 ∧ _) from fun h => by omega)]
      by_cases e2 : i < k ∧ ¬ (i < w 0 ∧ j < w 0)
      · rw [if_pos e2, if_pos ⟨by omega, e2.2⟩]
      · rw [if_neg e2, if_neg (fun h => e2 ⟨by omega, h.2⟩)]
def goI (s i k : Nat) (w : Nat → Nat) : Nat → Nat := it (fun t w => updN w (1 + 6 * i + (s + t)) (w (1 + 6 * i + (s + t + 1)))) k w
def goF (s n k : Nat) (w : Nat → Nat) : Nat → Nat := it (fun i w => goI s i (n - 1 - s) w) k w
def guI (i k : Nat) (w : Nat → Nat) : Nat → Nat := it (fun j w => updN w (1 + 6 * i + j) (w (1 + 6 * (i + 1) + j))) k w
def guF (s n k : Nat) (w : Nat → Nat) : Nat → Nat := it (fun t w => guI (s + t) n w) k w
def goM (s : Nat) (w : Nat → Nat) : Nat → Nat := clF 6 (updN (guF s (w 0) (w 0 - 1 - s) (goF s (w 0) (w 0) w)) 0 (w 0 - 1))
theorem it_le9 {f : Nat → (Nat → Nat) → (Nat → Nat)} (hf : ∀ k w, (∀ x, w x ≤ 9) → ∀ x, f k w x ≤ 9) {w : Nat → Nat} (h : ∀ x, w x ≤ 9) : ∀ k x, it f k w x ≤ 9
  | 0, x => h x
  | k + 1, x => hf k _ (it_le9 hf h k) x
theorem upd9 {w : Nat → Nat} (h : ∀ x, w x ≤ 9) {i v : Nat} (hv : v ≤ 9) (x : Nat) : updN w i v x ≤ 9 := by
  simp only [updN]; split
  · exact hv
  · exact h x
theorem goF_le {w : Nat → Nat} (h : ∀ x, w x ≤ 9) (s n k x : Nat) : goF s n k w x ≤ 9 :=
  it_le9 (fun _ _ h => it_le9 (fun _ _ h => upd9 h (h _)) h _) h k x
theorem guF_le {w : Nat → Nat} (h : ∀ x, w x ≤ 9) (s n k x : Nat) : guF s n k w x ≤ 9 :=
  it_le9 (fun _ _ h => it_le9 (fun _ _ h => upd9 h (h _)) h _) h k x
theorem goM_pre {w : Nat → Nat} (h : ∀ x, w x ≤ 9) (s : Nat) (x : Nat) : updN (guF s (w 0) (w 0 - 1 - s) (goF s (w 0) (w 0) w)) 0 (w 0 - 1) x ≤ 9 :=
  upd9 (guF_le (goF_le h _ _ _) _ _ _) (by have := h 0; omega) x
theorem hd_X6_reaches : yX6_reaches.cls = RX6 ∧ yX6_reaches.cls ≠ "java/lang/invoke/MethodHandle" ∧ yX6_reaches.cls ≠ "java/lang/invoke/VarHandle" ∧ (parseMethodDescriptor yX6_reaches.desc).map (fun d => d.parameters.length) = some 0 := by decide +kernel
theorem hd_X6_essentialStates : yX6_essentialStates.cls = RX6 ∧ yX6_essentialStates.cls ≠ "java/lang/invoke/MethodHandle" ∧ yX6_essentialStates.cls ≠ "java/lang/invoke/VarHandle" ∧ (parseMethodDescriptor yX6_essentialStates.desc).map (fun d => d.parameters.length) = some 0 := by decide +kernel
theorem hd_X6_clean : yX6_clean.cls = RX6 ∧ yX6_clean.cls ≠ "java/lang/invoke/MethodHandle" ∧ yX6_clean.cls ≠ "java/lang/invoke/VarHandle" ∧ (parseMethodDescriptor yX6_clean.desc).map (fun d => d.parameters.length) = some 0 := by decide +kernel
theorem hd_X6_goes : yX6_goes.cls = RX6 ∧ yX6_goes.cls ≠ "java/lang/invoke/MethodHandle" ∧ yX6_goes.cls ≠ "java/lang/invoke/VarHandle" ∧ (parseMethodDescriptor yX6_goes.desc).map (fun d => d.parameters.length) = some 1 := by decide +kernel
