/-! words of the twenty-eighth part: longs that are numbers, compared -/
theorem fx_le {a b : Nat} (ha : a < 4611686018427387904) (hb : b < 4611686018427387904) : lN a ≤ lN b ↔ a ≤ b := by
  rw [Int64.le_iff_toInt_le, pk_lT (Nat.lt_trans ha (by decide)), pk_lT (Nat.lt_trans hb (by decide))]
  omega
theorem hd_X6_radiusTenths : yX6_radiusTenths.cls = RX6 ∧ yX6_radiusTenths.cls ≠ "java/lang/invoke/MethodHandle" ∧ yX6_radiusTenths.cls ≠ "java/lang/invoke/VarHandle" ∧ (parseMethodDescriptor yX6_radiusTenths.desc).map (fun d => d.parameters.length) = some 0 := by decide +kernel
theorem hd_X6_factors : yX6_factors.cls = RX6 ∧ yX6_factors.cls ≠ "java/lang/invoke/MethodHandle" ∧ yX6_factors.cls ≠ "java/lang/invoke/VarHandle" ∧ (parseMethodDescriptor yX6_factors.desc).map (fun d => d.parameters.length) = some 2 := by decide +kernel
theorem hd_X6_differences : yX6_differences.cls = RX6 ∧ yX6_differences.cls ≠ "java/lang/invoke/MethodHandle" ∧ yX6_differences.cls ≠ "java/lang/invoke/VarHandle" ∧ (parseMethodDescriptor yX6_differences.desc).map (fun d => d.parameters.length) = some 0 := by decide +kernel
