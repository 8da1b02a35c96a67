/-! words of the tenth part: the reference's world -/
abbrev MW (G : gG) (md : Nat → Nat) (nw bf sh : Nat → Nat) (um : Nat) (rc : Nat → Nat) (wy nx le en dt co li : Nat → Int64) : va_W :=
  [(md 0, .inr (5, [.ref (md 1), .ref (md 2), .ref (md 3), .int (nI um), .ref (md 4), .ref (md 5), .ref (md 6), .ref (md 7), .ref (md 8), .ref (md 9), .ref (md 10), .ref (md 11)])), (md 1, .inl (gI G, 74, .inl (nF nw))), (md 2, .inl (gI G, 296, .inl (nF bf))), (md 3, .inl (gI G, 6, .inl (nF sh))), (md 4, .inl (gI G, 6, .inl (nF rc))), (md 5, .inl (gJ G, 6, .inr (.inl wy))), (md 6, .inl (gJ G, 6, .inr (.inl nx))), (md 7, .inl (gJ G, 9, .inr (.inl le))), (md 8, .inl (gJ G, 36, .inr (.inl en))), (md 9, .inl (gJ G, 64, .inr (.inl dt))), (md 10, .inl (gJ G, 36, .inr (.inl co))), (md 11, .inl (gJ G, 12, .inr (.inl li)))]
def inL (v lo hi : Int64) : Bool := decide (lo ≤ v) && decide (v ≤ hi)
theorem inL_lo {v lo hi : Int64} (h : v < lo) : inL v lo hi = false := by
  simp only [inL, Bool.and_eq_false_iff, decide_eq_false_iff_not]
  exact Or.inl (Int64.not_le.mpr h)
theorem inL_hi {v lo hi : Int64} (h : hi < v) : inL v lo hi = false := by
  simp only [inL, Bool.and_eq_false_iff, decide_eq_false_iff_not]
  exact Or.inr (Int64.not_le.mpr h)
theorem inL_tt {v lo hi : Int64} (h1 : ¬ v < lo) (h2 : ¬ hi < v) : inL v lo hi = true := by
  simp only [inL, Bool.and_eq_true, decide_eq_true_eq]
  exact ⟨Int64.not_lt.mp h1, Int64.not_lt.mp h2⟩
theorem toL_le (a b : Int32) : a.toInt64 ≤ b.toInt64 ↔ a ≤ b := by
  rw [Int64.le_iff_toInt_le, Int32.le_iff_toInt_le]
  simp
theorem inL_iw {p : Int32} {a b : Nat} (ha : a < 2147483648) (hb : b < 2147483648) : inL p.toInt64 (lN a) (lN b) = iwI p (nI a) (nI b) := by
  rw [inL, iwI, ← nI_l ha, ← nI_l hb]
  congr 1
  · exact decide_eq_decide.mpr (toL_le _ _)
  · exact decide_eq_decide.mpr (toL_le _ _)
theorem iw_has {p : Int32} {n : Nat} (h1 : 1 ≤ n) (hn : n < 2147483648) : iwI p (nI 0) (nI (n - 1)) = hasI n p := by
  unfold iwI hasI
  have e : nI 0 = (0 : Int32) := rfl
  rw [e]
  congr 1
  refine decide_eq_decide.mpr ?_
  rw [Int32.le_iff_toInt_le, Int32.lt_iff_toInt_lt, nI_toInt (by omega), nI_toInt hn]
  omega
theorem bit1_t {s i : Nat} (h : (s >>> i) &&& 1 = 1) : Nat.testBit s i = true := bit_ne (by omega)
theorem bit1_f {s i : Nat} (h : (s >>> i) &&& 1 ≠ 1) : Nat.testBit s i = false := by
  refine bit_eq ?_
  have : (s >>> i) &&& 1 ≤ 1 := Nat.and_le_right
  omega
def MI (nw bf sh : Nat → Nat) (um : Nat) : Prop := (1 ≤ nw 0 ∧ nw 0 ≤ 6) ∧ (1 ≤ nw 37 ∧ nw 37 ≤ 6) ∧ (∀ k, nw k ≤ 9) ∧ (∀ k, bf k ≤ 9) ∧ (∀ k, sh k ≤ 9) ∧ um ≤ 4 ∧ (∀ b, b = 0 ∨ b = 37 → ∀ i j, i < 6 → j < 6 → ¬ (i < nw b ∧ j < nw b) → nw (b + (1 + 6 * i + j)) = 0) ∧ (∀ t, t < um → ∀ b, b = 0 ∨ b = 37 → (1 ≤ bf (74 * t + b) ∧ bf (74 * t + b) ≤ 6) ∧ ∀ i j, i < 6 → j < 6 → ¬ (i < bf (74 * t + b) ∧ j < bf (74 * t + b)) → bf (74 * t + b + (1 + 6 * i + j)) = 0)
/-- the view of a row of 37 that begins at b -/
def rvV (nw : Nat → Nat) (b i j : Nat) : Nat := if i < nw b ∧ j < nw b then nw (b + (1 + 6 * i + j)) else 0
def amM (nw : Nat → Nat) (b : Nat) : AM := (nw b, rvV nw b)
def hiM (bf : Nat → Nat) (um : Nat) : List (AM × AM) := (List.range um).map (fun k => (amM (fun x => bf (74 * (um - 1 - k) + x)) 0, amM (fun x => bf (74 * (um - 1 - k) + x)) 37))
def asM (nw bf sh : Nat → Nat) (um : Nat) : AS := (amM nw 0, amM nw 37, hiM bf um, sh)
def shB (k : Nat) (bf : Nat → Nat) : Nat → Nat := it (fun k b => updN b k (b (74 + k))) k bf
def cpB (nw : Nat → Nat) (t k : Nat) (bf : Nat → Nat) : Nat → Nat := it (fun k b => updN b (74 * t + k) (nw k)) k bf
def kpM (um : Nat) : Nat := if um = 4 then 3 else um
def kpS4 (um : Nat) (bf : Nat → Nat) : Nat → Nat := if um = 4 then shB 222 bf else bf
def kpB (nw bf : Nat → Nat) (um : Nat) : Nat → Nat := cpB nw (kpM um) 74 (kpS4 um bf)
theorem kpM_le {um : Nat} (h : um ≤ 4) : kpM um ≤ 3 := by unfold kpM; split <;> omega
def unB (bf : Nat → Nat) (t k : Nat) (nw : Nat → Nat) : Nat → Nat := it (fun k w => updN w k (bf (74 * t + k))) k nw
theorem hd_X6_in : yX6_in.cls ≠ "java/lang/invoke/MethodHandle" ∧ yX6_in.cls ≠ "java/lang/invoke/VarHandle" ∧ (parseMethodDescriptor yX6_in.desc).map (fun d => d.parameters.length) = some 3 := by decide +kernel
theorem hd_X6_at : yX6_at.cls ≠ "java/lang/invoke/MethodHandle" ∧ yX6_at.cls ≠ "java/lang/invoke/VarHandle" ∧ (parseMethodDescriptor yX6_at.desc).map (fun d => d.parameters.length) = some 2 := by decide +kernel
theorem hd_X6_has : yX6_has.cls ≠ "java/lang/invoke/MethodHandle" ∧ yX6_has.cls ≠ "java/lang/invoke/VarHandle" ∧ (parseMethodDescriptor yX6_has.desc).map (fun d => d.parameters.length) = some 2 := by decide +kernel
theorem hd_X6_ones : yX6_ones.cls ≠ "java/lang/invoke/MethodHandle" ∧ yX6_ones.cls ≠ "java/lang/invoke/VarHandle" ∧ (parseMethodDescriptor yX6_ones.desc).map (fun d => d.parameters.length) = some 1 := by decide +kernel
theorem hd_X6_common : yX6_common.cls ≠ "java/lang/invoke/MethodHandle" ∧ yX6_common.cls ≠ "java/lang/invoke/VarHandle" ∧ (parseMethodDescriptor yX6_common.desc).map (fun d => d.parameters.length) = some 2 := by decide +kernel
theorem hd_X6_rowAt : yX6_rowAt.cls ≠ "java/lang/invoke/MethodHandle" ∧ yX6_rowAt.cls ≠ "java/lang/invoke/VarHandle" ∧ (parseMethodDescriptor yX6_rowAt.desc).map (fun d => d.parameters.length) = some 2 := by decide +kernel
theorem hd_X6_isState : yX6_isState.cls = RX6 ∧ yX6_isState.cls ≠ "java/lang/invoke/MethodHandle" ∧ yX6_isState.cls ≠ "java/lang/invoke/VarHandle" ∧ (parseMethodDescriptor yX6_isState.desc).map (fun d => d.parameters.length) = some 1 := by decide +kernel
theorem hd_X6_size : yX6_size.cls = RX6 ∧ yX6_size.cls ≠ "java/lang/invoke/MethodHandle" ∧ yX6_size.cls ≠ "java/lang/invoke/VarHandle" ∧ (parseMethodDescriptor yX6_size.desc).map (fun d => d.parameters.length) = some 0 := by decide +kernel
theorem hd_X6_entry : yX6_entry.cls = RX6 ∧ yX6_entry.cls ≠ "java/lang/invoke/MethodHandle" ∧ yX6_entry.cls ≠ "java/lang/invoke/VarHandle" ∧ (parseMethodDescriptor yX6_entry.desc).map (fun d => d.parameters.length) = some 2 := by decide +kernel
theorem hd_X6_keeps : yX6_keeps.cls = RX6 ∧ yX6_keeps.cls ≠ "java/lang/invoke/MethodHandle" ∧ yX6_keeps.cls ≠ "java/lang/invoke/VarHandle" ∧ (parseMethodDescriptor yX6_keeps.desc).map (fun d => d.parameters.length) = some 0 := by decide +kernel
