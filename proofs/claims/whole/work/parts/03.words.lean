/-! PURE WORDS: what the methods do to numbers and functions -/
/-- a matrix of order n in rows of six, 0 beyond -/
def mv (n : Nat) (a : Nat → Nat) (i j : Nat) : Nat := if i < n ∧ j < n then a (i * 6 + j) else 0
def it {σ : Type} (f : Nat → σ → σ) : Nat → σ → σ
  | 0, s => s
  | k + 1, s => f k (it f k s)
def hasI (n : Nat) (p : Int32) : Bool := decide (0 ≤ p) && decide (p < nI n)
theorem hasI_N {n r : Nat} (hr : r < 2147483648) (hn : n < 2147483648) : hasI n (nI r) = true ↔ r < n := by
  simp only [hasI, Bool.and_eq_true, decide_eq_true_eq, nI_ltI hr hn]
  exact ⟨fun h => h.2, fun h => ⟨nI_pos' hr, h⟩⟩
theorem hasI_F {n r : Nat} (hr : r < 2147483648) (hn : n < 2147483648) : hasI n (nI r) = false ↔ n ≤ r := by
  rw [← Bool.not_eq_true, hasI_N hr hn]; omega
theorem hasI_of {n : Nat} {p : Int32} (hn : n < 2147483648) (h : hasI n p = true) : ∃ r, r < n ∧ p = nI r := by
  simp only [hasI, Bool.and_eq_true, decide_eq_true_eq] at h
  obtain ⟨j, hj, rfl⟩ := nI_of (x := p) (fun q => absurd h.1 (Int32.not_le.mpr q))
  exact ⟨j, (nI_ltI hj hn).mp h.2, rfl⟩
theorem hasI_lo {n : Nat} {p : Int32} (h : p < 0) : hasI n p = false := by
  simp only [hasI, Bool.and_eq_false_iff, decide_eq_false_iff_not]
  exact Or.inl (Int32.not_le.mpr h)
theorem hasI_hi {n : Nat} {p : Int32} (h : nI n ≤ p) : hasI n p = false := by
  simp only [hasI, Bool.and_eq_false_iff, decide_eq_false_iff_not]
  exact Or.inr (Int32.not_lt.mpr h)
theorem hasI_tt {n : Nat} {p : Int32} (h1 : ¬ p < 0) (h2 : ¬ nI n ≤ p) : hasI n p = true := by
  simp only [hasI, Bool.and_eq_true, decide_eq_true_eq]
  exact ⟨Int32.not_lt.mp h1, Int32.not_le.mp h2⟩
abbrev mW (G : gG) (o c n : Nat) (a : Nat → Nat) : va_W := [(o, .inr (1, [.int (nI n), .ref c])), (c, .inl (gI G, 36, .inl (nF a)))]
theorem ly_max {a b : Nat} (ha : a < 2147483648) (hb : b < 2147483648) : (if nI a < nI b then nI b else nI a) = nI (Nat.max a b) := by
  by_cases h : a < b
  · rw [if_pos ((nI_ltI ha hb).mpr h), show Nat.max a b = b from Nat.max_eq_right (Nat.le_of_lt h)]
  · rw [if_neg (fun q => h ((nI_ltI ha hb).mp q)), show Nat.max a b = a from Nat.max_eq_left (Nat.le_of_not_lt h)]
theorem ly_min {a b : Nat} (ha : a < 2147483648) (hb : b < 2147483648) : (if nI b < nI a then nI b else nI a) = nI (Nat.min a b) := by
  by_cases h : b < a
  · rw [if_pos ((nI_ltI hb ha).mpr h), show Nat.min a b = b from Nat.min_eq_right (Nat.le_of_lt h)]
  · rw [if_neg (fun q => h ((nI_ltI hb ha).mp q)), show Nat.min a b = a from Nat.min_eq_left (Nat.le_of_not_lt h)]
def pu (n : Nat) (a : Nat → Nat) (i j v : Nat) : Nat → Nat := if i < n ∧ j < n then updN a (i * 6 + j) v else a
def rs (v : Nat) : Nat := Nat.max 1 (Nat.min v 6)
theorem rs_in (v : Nat) : 1 ≤ rs v ∧ rs v ≤ 6 := by
  unfold rs
  have h1 : Nat.min v 6 ≤ 6 := Nat.min_le_right v 6
  exact ⟨Nat.le_max_left _ _, Nat.max_le.mpr ⟨by decide, h1⟩⟩
theorem rs_id {v : Nat} (h1 : 1 ≤ v) (h2 : v ≤ 6) : rs v = v := by
  unfold rs
  rw [show Nat.min v 6 = v from Nat.min_eq_left h2]
  exact Nat.max_eq_right h1
theorem rs_lt (v : Nat) : Nat.max 1 (Nat.min v 6) < 2147483648 := Nat.lt_of_le_of_lt (rs_in v).2 (by decide)
theorem rs_min (v : Nat) : Nat.min v 6 < 2147483648 := Nat.lt_of_le_of_lt (Nat.min_le_right v 6) (by decide)
def fillF (n v k : Nat) (a : Nat → Nat) : Nat → Nat := it (fun i a => it (fun j a => pu n a i j v) n a) k a
def copyF (n : Nat) (src : Nat → Nat → Nat) (k : Nat) (a : Nat → Nat) : Nat → Nat := it (fun i a => it (fun j a => pu n a i j (src i j)) n a) k a
def trF (n k : Nat) (a : Nat → Nat) : Nat → Nat := it (fun i a => it (fun j a => pu n (pu n a i j (mv n a j i)) j i (mv n a i j)) i a) k a
def gcF (n : Nat) (m : Nat → Nat → Nat) (k : Nat) : Nat := it (fun i g => it (fun j g => Nat.max g (m i j)) n g) k 0
theorem gc_lt (m : Nat → Nat → Nat) {b : Nat} (hm : ∀ i j, m i j < b) (i g : Nat) (hg : g < b) : ∀ k, it (fun j g => Nat.max g (m i j)) k g < b
  | 0 => hg
  | k + 1 => Nat.max_lt.mpr ⟨gc_lt m hm i g hg k, hm i k⟩
theorem gcF_lt (n : Nat) (m : Nat → Nat → Nat) {b : Nat} (hm : ∀ i j, m i j < b) : ∀ k, gcF n m k < b
  | 0 => Nat.lt_of_le_of_lt (Nat.zero_le _) (hm 0 0)
  | k + 1 => gc_lt m hm k _ (gcF_lt n m hm k) n
def sk (s i : Nat) : Nat := if i < s then i else i + 1
theorem sk_le (s i : Nat) : sk s i ≤ i + 1 := by unfold sk; split <;> omega
def rmR (n s k : Nat) (a : Nat → Nat) : Nat → Nat := it (fun i a => it (fun j a => pu n a i j (mv n a (sk s i) (sk s j))) (n - 1) a) k a
def rmF (n s : Nat) (a : Nat → Nat) : Nat → Nat := rmR n s (n - 1) a
abbrev shW (G : gG) (p : Nat) (sh : Nat → Nat) : va_W := [(p, .inl (gI G, 6, .inl (nF sh)))]
def spF (n s : Nat) (sh : Nat → Nat) (k : Nat) (a : Nat → Nat) : Nat → Nat := it (fun j a => pu (n + 1) (pu (n + 1) a s j (mv (n + 1) a s j - sh j)) n j (sh j)) k a
def splitF (n s : Nat) (sh : Nat → Nat) (a : Nat → Nat) : Nat → Nat := it (fun i a => pu (n + 1) a i n (mv (n + 1) a i s)) (n + 1) (spF n s sh n a)
theorem pu_ne {n : Nat} {a : Nat → Nat} {i j v x : Nat} (h : x ≠ i * 6 + j) : pu n a i j v x = a x := by
  unfold pu; split
  · simp [updN, h]
  · rfl
theorem pu_eq {n : Nat} {a : Nat → Nat} {i j v : Nat} (hi : i < n) (hj : j < n) : pu n a i j v (i * 6 + j) = v := by
  rw [pu, if_pos ⟨hi, hj⟩]; simp [updN]
theorem spF_at (n s : Nat) (sh a : Nat → Nat) (hn : n ≤ 5) (hs : s < n) : ∀ k c, k ≤ c → c < 6 → spF n s sh k a (s * 6 + c) = a (s * 6 + c)
  | 0, _, _, _ => rfl
  | k + 1, c, h, hc => by
    show pu (n + 1) (pu (n + 1) (spF n s sh k a) s k _) n k _ (s * 6 + c) = _
    rw [pu_ne (by omega), pu_ne (by omega)]
    exact spF_at n s sh a hn hs k c (by omega) hc
theorem spF_le (n s : Nat) (sh a : Nat → Nat) (hn : n ≤ 5) (hs : s < n) (hsh : ∀ j, j < n → sh j ≤ mv n a s j) (j : Nat) (hj : j < n) : sh j ≤ mv (n + 1) (spF n s sh j a) s j := by
  have h := hsh j hj
  rw [mv, if_pos ⟨hs, hj⟩] at h
  rw [mv, if_pos ⟨by omega, by omega⟩, spF_at n s sh a hn hs j j (Nat.le_refl j) (by omega)]
  exact h
def eqC (n : Nat) (a : Nat → Nat) (f g : Nat) : Bool := decide (∀ k, k < n → mv n a k f = mv n a k g)
theorem eqC_f {n : Nat} {a : Nat → Nat} {f g i : Nat} (hi : i < n) (h : mv n a i f ≠ mv n a i g) : eqC n a f g = false := decide_eq_false (fun q => h (q i hi))
theorem eqC_t {n : Nat} {a : Nat → Nat} {f g : Nat} (h : ∀ k, k < n → mv n a k f = mv n a k g) : eqC n a f g = true := decide_eq_true h
def mgR (n lo hi k : Nat) (a : Nat → Nat) : Nat → Nat := it (fun j a => pu n a lo j (mv n a lo j + mv n a hi j)) k a
def mgF (n lo hi : Nat) (a : Nat → Nat) : Nat → Nat := rmF n hi (mgR n lo hi n a)
def msN (n : Nat) (u : Option (Nat × Nat)) : Nat := match u with | none => n | some _ => rs (n - 1)
def msA (n : Nat) (a : Nat → Nat) (u : Option (Nat × Nat)) : Nat → Nat := match u with | none => a | some q => mgF n q.1 q.2 a
def msP (n : Nat) (a : Nat → Nat) (u : Option (Nat × Nat)) : Prop := match u with | none => ∀ h, h < n → ∀ l, l < h → eqC n a l h = false | some q => q.1 < q.2 ∧ q.2 < n ∧ eqC n a q.1 q.2 = true
theorem hd_X2_order : yX2_order.cls = RX2 ∧ yX2_order.cls ≠ "java/lang/invoke/MethodHandle" ∧ yX2_order.cls ≠ "java/lang/invoke/VarHandle" ∧ (parseMethodDescriptor yX2_order.desc).map (fun d => d.parameters.length) = some 0 := by decide +kernel
theorem hd_X2_has : yX2_has.cls = RX2 ∧ yX2_has.cls ≠ "java/lang/invoke/MethodHandle" ∧ yX2_has.cls ≠ "java/lang/invoke/VarHandle" ∧ (parseMethodDescriptor yX2_has.desc).map (fun d => d.parameters.length) = some 1 := by decide +kernel
theorem hd_X2_cell : yX2_cell.cls = RX2 ∧ yX2_cell.cls ≠ "java/lang/invoke/MethodHandle" ∧ yX2_cell.cls ≠ "java/lang/invoke/VarHandle" ∧ (parseMethodDescriptor yX2_cell.desc).map (fun d => d.parameters.length) = some 2 := by decide +kernel
theorem hd_X2_put : yX2_put.cls = RX2 ∧ yX2_put.cls ≠ "java/lang/invoke/MethodHandle" ∧ yX2_put.cls ≠ "java/lang/invoke/VarHandle" ∧ (parseMethodDescriptor yX2_put.desc).map (fun d => d.parameters.length) = some 3 := by decide +kernel
theorem hd_X2_resize : yX2_resize.cls = RX2 ∧ yX2_resize.cls ≠ "java/lang/invoke/MethodHandle" ∧ yX2_resize.cls ≠ "java/lang/invoke/VarHandle" ∧ (parseMethodDescriptor yX2_resize.desc).map (fun d => d.parameters.length) = some 1 := by decide +kernel
theorem hd_X2_fill : yX2_fill.cls = RX2 ∧ yX2_fill.cls ≠ "java/lang/invoke/MethodHandle" ∧ yX2_fill.cls ≠ "java/lang/invoke/VarHandle" ∧ (parseMethodDescriptor yX2_fill.desc).map (fun d => d.parameters.length) = some 2 := by decide +kernel
theorem hd_X2_copy : yX2_copy.cls = RX2 ∧ yX2_copy.cls ≠ "java/lang/invoke/MethodHandle" ∧ yX2_copy.cls ≠ "java/lang/invoke/VarHandle" ∧ (parseMethodDescriptor yX2_copy.desc).map (fun d => d.parameters.length) = some 1 := by decide +kernel
theorem hd_X2_transpose : yX2_transpose.cls = RX2 ∧ yX2_transpose.cls ≠ "java/lang/invoke/MethodHandle" ∧ yX2_transpose.cls ≠ "java/lang/invoke/VarHandle" ∧ (parseMethodDescriptor yX2_transpose.desc).map (fun d => d.parameters.length) = some 0 := by decide +kernel
theorem hd_X2_greatestCell : yX2_greatestCell.cls = RX2 ∧ yX2_greatestCell.cls ≠ "java/lang/invoke/MethodHandle" ∧ yX2_greatestCell.cls ≠ "java/lang/invoke/VarHandle" ∧ (parseMethodDescriptor yX2_greatestCell.desc).map (fun d => d.parameters.length) = some 0 := by decide +kernel
theorem hd_X2_remove : yX2_remove.cls = RX2 ∧ yX2_remove.cls ≠ "java/lang/invoke/MethodHandle" ∧ yX2_remove.cls ≠ "java/lang/invoke/VarHandle" ∧ (parseMethodDescriptor yX2_remove.desc).map (fun d => d.parameters.length) = some 1 := by decide +kernel
theorem hd_X2_splitRow : yX2_splitRow.cls = RX2 ∧ yX2_splitRow.cls ≠ "java/lang/invoke/MethodHandle" ∧ yX2_splitRow.cls ≠ "java/lang/invoke/VarHandle" ∧ (parseMethodDescriptor yX2_splitRow.desc).map (fun d => d.parameters.length) = some 2 := by decide +kernel
theorem hd_X2_columnsAreEqual : yX2_columnsAreEqual.cls = RX2 ∧ yX2_columnsAreEqual.cls ≠ "java/lang/invoke/MethodHandle" ∧ yX2_columnsAreEqual.cls ≠ "java/lang/invoke/VarHandle" ∧ (parseMethodDescriptor yX2_columnsAreEqual.desc).map (fun d => d.parameters.length) = some 2 := by decide +kernel
theorem hd_X2_mergeRows : yX2_mergeRows.cls = RX2 ∧ yX2_mergeRows.cls ≠ "java/lang/invoke/MethodHandle" ∧ yX2_mergeRows.cls ≠ "java/lang/invoke/VarHandle" ∧ (parseMethodDescriptor yX2_mergeRows.desc).map (fun d => d.parameters.length) = some 2 := by decide +kernel
theorem hd_X2_mergeSomeEqualColumns : yX2_mergeSomeEqualColumns.cls = RX2 ∧ yX2_mergeSomeEqualColumns.cls ≠ "java/lang/invoke/MethodHandle" ∧ yX2_mergeSomeEqualColumns.cls ≠ "java/lang/invoke/VarHandle" ∧ (parseMethodDescriptor yX2_mergeSomeEqualColumns.desc).map (fun d => d.parameters.length) = some 0 := by decide +kernel
