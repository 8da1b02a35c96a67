/-! rows and words of the second part: copies, loops that count down, bits, walks, graphs -/
section ZR2
variable {X : zX} {G : gG} {A : Nat → Prop} {cc : ByteArray} {nL k n : Nat} {own : String} {Ts : List Cond} {rm : Room} {ws : va_W} {lv : List (Nat × Value)} {pc : Nat} {st : List Value}
theorem z_copyl (C : Cx X G A cc nL own Ts rm) {idx a0 a N0 N1 len : Nat} {f g : Nat → Int64} {ws' : va_W} (q0 q1 : Nat) (ha0 : ws[q0]? = some (a0, .inl (gJ G, N0, .inr (.inl f)))) (ha1 : ws[q1]? = some (a, .inl (gJ G, N1, .inr (.inl g)))) (hl0 : len ≤ N0) (hl1 : len ≤ N1) (hll : len < 2147483648)
    (h1 : Cond.methodLink own idx arraycopyName ∈ Ts) (h2 : Cond.native arraycopyName ∈ Ts) (h3 : Cond.static arraycopyName ∈ Ts) (h4 : Cond.initialized "java/lang/System" ∈ Ts) (hR : 1 ≤ rm.frames ∧ (st.map fun v => v.category).sum + (nativeFrameWords "java/lang/System" "arraycopy" 5 + 11) ≤ rm.locals) (hw : ws.set q1 (a, .inl (gJ G, N1, .inr (.inl (va_cpy f g 0 0 len)))) = ws') (d : decode cc pc = .ok (.invokestatic idx, 3)) (kk : Z X G A nL k n ws' lv (pc + 3) st) : Z X G A nL k n ws lv pc (.int (nI len) :: .int (nI 0) :: .ref a :: .int (nI 0) :: .ref a0 :: st) := by
  intro H locs ls hP hD hS hl
  have hc : (nI len).toNatClampNeg = len := nI_clamp hll
  have hz : (nI 0).toNatClampNeg = 0 := nI_clamp (by decide)
  refine va_copyl C.1 C.2.1 (C.2.2.1.trans hl.1.symm) C.2.2.2.1 (C.2.2.2.2.1 _ h1) (C.2.2.2.2.1 _ h2) (C.2.2.2.2.1 _ h3) (C.2.2.2.2.1 _ h4) C.2.2.2.2.2.1 hP hD hS q0 q1 1 1 ha0 ha1 rfl rfl rfl (nI_pos (by decide)) (nI_pos (by decide)) (nI_pos hll) (by rw [hz, hc]; omega) (by rw [hz, hc]; omega) (fun _ _ => rfl) (by rw [C.2.2.2.2.2.2.2.2]; exact hR.1) (by rw [C.2.2.2.2.2.2.2.2]; exact hR.2) d ?_
  rw [hz, hc, hw]
  exact fun H1 locs1 hP hD hS => kk H1 locs1 ls hP hD hS hl
end ZR2
def dn : Nat → Int32
  | 0 => -1
  | k + 1 => nI k
theorem dn_pred {k : Nat} (h : k < 2147483648) : nI k + Int32.ofInt (-1) = dn k := by
  cases k with
  | zero => rfl
  | succ k => exact ly_m1 (by omega)
theorem dn_1 {n : Nat} (h : 1 ≤ n) : nI (n - 1) = dn n := by
  obtain ⟨k, rfl⟩ : ∃ k, n = k + 1 := ⟨n - 1, by omega⟩
  rfl
theorem zdn (P : Nat → Prop) (e : Nat) (h0 : P 0) (hs : ∀ i, i < e → P i → P (i + 1)) : P e := by
  have h : ∀ i, i ≤ e → P i := by
    intro i
    induction i with
    | zero => exact fun _ => h0
    | succ i ih => exact fun h => hs i (by omega) (ih (by omega))
  exact h e (Nat.le_refl e)
theorem and1_lt (x : Nat) : x &&& 1 < 2147483648 := Nat.lt_of_le_of_lt Nat.and_le_right (by decide)
theorem bit_ne {s i : Nat} (h : (s >>> i) &&& 1 ≠ 0) : s.testBit i = true := by
  simp only [Nat.testBit, Nat.and_comm 1]
  simpa using h
theorem bit_eq {s i : Nat} (h : (s >>> i) &&& 1 = 0) : s.testBit i = false := by
  simp only [Nat.testBit, Nat.and_comm 1]
  simpa using h
/-! walks -/
abbrev wkW (G : gG) (w e x : Nat) (f g : Nat → Int64) : va_W := [(w, .inr (3, [.ref e, .ref x])), (e, .inl (gJ G, 6, .inr (.inl f))), (x, .inl (gJ G, 6, .inr (.inl g)))]
def bgF (s k : Nat) (f : Nat → Int64) : Nat → Int64 := it (fun j f => vp_updL f j (if j = s then 1 else 0)) k f
def beF (k : Nat) (f : Nat → Int64) : Nat → Int64 := it (fun j f => vp_updL f j 1) k f
def ltF (n : Nat) (m : Nat → Nat → Nat) (f : Nat → Int64) (t k : Nat) : Int64 := it (fun i s => s + f i * lN (m i t)) k 0
theorem ltF_up {n : Nat} (a : Nat → Nat) (f : Nat → Int64) (t : Nat) : ∀ d, ltF n (mv n a) f t (n + d) = ltF n (mv n a) f t n
  | 0 => rfl
  | d + 1 => by
    show ltF n (mv n a) f t (n + d) + f (n + d) * lN (mv n a (n + d) t) = _
    rw [ltF_up a f t d, mv, if_neg (by omega), show lN 0 = 0 from rfl, Int64.mul_zero, Int64.add_zero]
theorem ltF_6 {n : Nat} (hn : n ≤ 6) (a : Nat → Nat) (f : Nat → Int64) (t : Nat) : ltF n (mv n a) f t 6 = ltF n (mv n a) f t n := by
  obtain ⟨d, hd⟩ : ∃ d, 6 = n + d := ⟨6 - n, by omega⟩
  rw [hd, ltF_up]
def goS (n : Nat) (m : Nat → Nat → Nat) (k : Nat) (p : (Nat → Int64) × (Nat → Int64)) : (Nat → Int64) × (Nat → Int64) := it (fun _ p => (va_cpy (it (fun t g => vp_updL g t (ltF n m p.1 t n)) 6 p.2) p.1 0 0 6, it (fun t g => vp_updL g t (ltF n m p.1 t n)) 6 p.2)) k p
def eaF (f : Nat → Int64) (k : Nat) : Int64 := it (fun j s => s + f j) k 0
/-! sets of states -/
def daF (n : Nat) (m : Nat → Nat → Nat) (f k : Nat) : Nat := it (fun j r => if m f j = 0 then r else r ||| 2 ^ j) k 0
def saF (n : Nat) (m : Nat → Nat → Nat) (set k : Nat) : Nat := it (fun i r => if set.testBit i = true then r ||| daF n m i n else r) k 0
def sbF (n : Nat) (m : Nat → Nat → Nat) (set k : Nat) : Nat := it (fun i r => if daF n m i n &&& set = 0 then r else r ||| 2 ^ i) k 0
def esE (n : Nat) (m : Nat → Nat → Nat) (k : Nat) : Nat := it (fun _ r => saF n m r n) k (2 ^ n - 1)
def esB (n : Nat) (m : Nat → Nat → Nat) (k : Nat) : Nat := it (fun _ r => sbF n m r n) k (2 ^ n - 1)
def csR (n : Nat) (m : Nat → Nat → Nat) (s k : Nat) : Nat := it (fun _ r => r ||| saF n m r n) k (2 ^ s)
def csB (n : Nat) (m : Nat → Nat → Nat) (s k : Nat) : Nat := it (fun _ r => r ||| sbF n m r n) k (2 ^ s)
def csF (n : Nat) (m : Nat → Nat → Nat) (s : Nat) : Nat := csR n m s (n - 1) &&& csB n m s (n - 1)
def cbF (n : Nat) (m : Nat → Nat → Nat) (k : Nat) : Nat := it (fun s c => if csF n m s &&& (2 ^ s - 1) = 0 then c + 1 else c) k 0
def drR (n : Nat) (m : Nat → Nat → Nat) (s k : Nat) : Nat := it (fun _ r => saF n m r n) k (2 ^ s)
def drD (n : Nat) (m : Nat → Nat → Nat) (s k : Nat) : Nat := it (fun i d => if (drR n m s (i + 1)).testBit s = true then Nat.gcd d (i + 1) else d) k 0
theorem or_lt64 {x y : Nat} (hx : x < 64) (hy : y < 64) : x ||| y < 64 := Nat.or_lt_two_pow (n := 6) hx hy
theorem p2_lt64 {j : Nat} (h : j < 6) : 2 ^ j < 64 := Nat.pow_lt_pow_right (a := 2) (by decide) h
theorem daF_lt (n : Nat) (m : Nat → Nat → Nat) (f : Nat) : ∀ k, k ≤ 6 → daF n m f k < 64
  | 0, _ => by show 0 < 64; decide
  | k + 1, h => by
    show (if m f k = 0 then daF n m f k else daF n m f k ||| 2 ^ k) < 64
    split
    · exact daF_lt n m f k (by omega)
    · exact or_lt64 (daF_lt n m f k (by omega)) (p2_lt64 (by omega))
theorem saF_lt {n : Nat} (m : Nat → Nat → Nat) (set : Nat) (hn : n ≤ 6) : ∀ k, saF n m set k < 64
  | 0 => by show 0 < 64; decide
  | k + 1 => by
    show (if set.testBit k = true then saF n m set k ||| daF n m k n else saF n m set k) < 64
    split
    · exact or_lt64 (saF_lt m set hn k) (daF_lt n m k n hn)
    · exact saF_lt m set hn k
theorem sbF_lt (n : Nat) (m : Nat → Nat → Nat) (set : Nat) : ∀ k, k ≤ 6 → sbF n m set k < 64
  | 0, _ => by show 0 < 64; decide
  | k + 1, h => by
    show (if daF n m k n &&& set = 0 then sbF n m set k else sbF n m set k ||| 2 ^ k) < 64
    split
    · exact sbF_lt n m set k (by omega)
    · exact or_lt64 (sbF_lt n m set k (by omega)) (p2_lt64 (by omega))
theorem all_lt {n : Nat} (hn : n ≤ 6) : 2 ^ n - 1 < 64 := by
  have : 2 ^ n ≤ 2 ^ 6 := Nat.pow_le_pow_right (by decide) hn
  have : 0 < 2 ^ n := Nat.two_pow_pos n
  omega
theorem esE_lt {n : Nat} (m : Nat → Nat → Nat) (hn : n ≤ 6) : ∀ k, esE n m k < 64
  | 0 => all_lt hn
  | k + 1 => saF_lt m _ hn n
theorem esB_lt {n : Nat} (m : Nat → Nat → Nat) (hn : n ≤ 6) : ∀ k, esB n m k < 64
  | 0 => all_lt hn
  | k + 1 => sbF_lt n m _ n hn
theorem csR_lt {n s : Nat} (m : Nat → Nat → Nat) (hn : n ≤ 6) (hs : s < 6) : ∀ k, csR n m s k < 64
  | 0 => p2_lt64 hs
  | k + 1 => or_lt64 (csR_lt m hn hs k) (saF_lt m _ hn n)
theorem csB_lt {n s : Nat} (m : Nat → Nat → Nat) (hn : n ≤ 6) (hs : s < 6) : ∀ k, csB n m s k < 64
  | 0 => p2_lt64 hs
  | k + 1 => or_lt64 (csB_lt m hn hs k) (sbF_lt n m _ n hn)
theorem csF_lt {n s : Nat} (m : Nat → Nat → Nat) (hn : n ≤ 6) (hs : s < 6) : csF n m s < 64 := Nat.lt_of_le_of_lt Nat.and_le_left (csR_lt m hn hs _)
theorem cbF_le (n : Nat) (m : Nat → Nat → Nat) : ∀ k, cbF n m k ≤ k
  | 0 => Nat.le_refl 0
  | k + 1 => by
    show (if csF n m k &&& (2 ^ k - 1) = 0 then cbF n m k + 1 else cbF n m k) ≤ k + 1
    have := cbF_le n m k
    split <;> omega
theorem drR_lt {n s : Nat} (m : Nat → Nat → Nat) (hn : n ≤ 6) (hs : s < 6) : ∀ k, drR n m s k < 64
  | 0 => p2_lt64 hs
  | k + 1 => saF_lt m _ hn n
theorem drD_le (n : Nat) (m : Nat → Nat → Nat) (s : Nat) : ∀ k, drD n m s k ≤ k
  | 0 => Nat.le_refl 0
  | k + 1 => by
    show (if (drR n m s (k + 1)).testBit s = true then Nat.gcd (drD n m s k) (k + 1) else drD n m s k) ≤ k + 1
    split
    · exact Nat.le_of_dvd (by omega) (Nat.gcd_dvd_right _ _)
    · exact Nat.le_succ_of_le (drD_le n m s k)
/-! the greatest divisor: Euclid's products halve -/
def gdJ (x y i d r : Nat) : Prop := Nat.gcd d r = Nat.gcd x y ∧ d < 4611686018427387904 ∧ r < 4611686018427387904 ∧ (i = 0 ∨ (r < d ∧ d * r * 2 ^ (i - 1) < 2 ^ 124))
theorem gdJ_0 {x y : Nat} (hx : x < 4611686018427387904) (hy : y < 4611686018427387904) : gdJ x y 0 x y := ⟨rfl, hx, hy, Or.inl rfl⟩
theorem gdJ_s {x y i d r : Nat} (h : gdJ x y i d r) (hr : 0 < r) : gdJ x y (i + 1) r (d % r) := by
  obtain ⟨h1, h2, h3, h4⟩ := h
  have hm : d % r < r := Nat.mod_lt _ hr
  refine ⟨?_, h3, by omega, Or.inr ⟨hm, ?_⟩⟩
  · rw [← h1, Nat.gcd_comm r (d % r), ← Nat.gcd_rec, Nat.gcd_comm]
  · rw [show i + 1 - 1 = i by omega]
    rcases h4 with rfl | ⟨h4, h5⟩
    · rw [Nat.pow_zero, Nat.mul_one]
      calc r * (d % r) < 4611686018427387904 * 4611686018427387904 := Nat.mul_lt_mul'' h3 (by omega)
        _ = 2 ^ 124 := by decide
    · rcases Nat.eq_zero_or_pos i with rfl | hi
      · have : d * r < 2 ^ 124 := by simpa using h5
        rw [Nat.pow_zero, Nat.mul_one]
        exact Nat.lt_of_le_of_lt (by rw [Nat.mul_comm]; exact Nat.mul_le_mul (Nat.mod_le _ _) (Nat.le_refl r)) this
      · have h6 : 2 * (d % r) ≤ d := by
          have := Nat.div_add_mod d r
          have : 1 ≤ d / r := (Nat.le_div_iff_mul_le hr).mpr (by omega)
          have : r * 1 ≤ r * (d / r) := Nat.mul_le_mul_left r this
          omega
        obtain ⟨j, rfl⟩ : ∃ j, i = j + 1 := ⟨i - 1, by omega⟩
        rw [show j + 1 - 1 = j by omega] at h5
        refine Nat.lt_of_le_of_lt ?_ h5
        rw [Nat.pow_succ, show r * (d % r) * (2 ^ j * 2) = (2 * (d % r)) * r * 2 ^ j by
          rw [Nat.mul_comm r (d % r), Nat.mul_comm 2 (d % r), Nat.mul_comm (2 ^ j) 2, ← Nat.mul_assoc, Nat.mul_assoc (d % r) r 2, Nat.mul_comm r 2, ← Nat.mul_assoc]]
        exact Nat.mul_le_mul (Nat.mul_le_mul h6 (Nat.le_refl r)) (Nat.le_refl _)
theorem gdJ_e {x y d r : Nat} (h : gdJ x y 128 d r) : r = 0 := by
  obtain ⟨-, -, -, h4⟩ := h
  rcases h4 with h4 | ⟨h4, h5⟩
  · omega
  · rcases Nat.eq_zero_or_pos r with h | h
    · exact h
    · have : 1 ≤ d * r := Nat.mul_pos (by omega) h
      have h7 : 1 * 2 ^ (128 - 1) ≤ d * r * 2 ^ (128 - 1) := Nat.mul_le_mul_right _ this
      have : (2 : Nat) ^ 124 < 1 * 2 ^ (128 - 1) := by decide
      omega
theorem gd_r {x y i d : Nat} (h : gdJ x y i d 0) : Nat.gcd x y = d := by rw [← h.1, Nat.gcd_zero_right]
theorem lN_ne0 {r : Nat} (h : r < 4611686018427387904) (h0 : ¬ lN r = 0) : 0 < r := Nat.pos_of_ne_zero (fun e => h0 (by rw [e]; rfl))
theorem lN_eq0 {r : Nat} (h : r < 4611686018427387904) (h0 : lN r = 0) : r = 0 := by
  have : lN r = lN 0 := h0
  exact (pk_lEQ (Nat.lt_trans h (by decide)) (by decide)).mp this
theorem lN_rem {d r : Nat} (hd : d < 4611686018427387904) (hr : r < 4611686018427387904) (h0 : 0 < r) : lN d - lN d / lN r * lN r = lN (d % r) := pk_lRem (Nat.lt_trans hd (by decide)) h0 (Nat.lt_trans hr (by decide))
theorem lN_toI (d : Nat) : (lN d).toInt32 = nI d := lN_i d
theorem hd_X4_beginAt : yX4_beginAt.cls = RX4 ∧ yX4_beginAt.cls ≠ "java/lang/invoke/MethodHandle" ∧ yX4_beginAt.cls ≠ "java/lang/invoke/VarHandle" ∧ (parseMethodDescriptor yX4_beginAt.desc).map (fun d => d.parameters.length) = some 1 := by decide +kernel
theorem hd_X4_beginEverywhere : yX4_beginEverywhere.cls = RX4 ∧ yX4_beginEverywhere.cls ≠ "java/lang/invoke/MethodHandle" ∧ yX4_beginEverywhere.cls ≠ "java/lang/invoke/VarHandle" ∧ (parseMethodDescriptor yX4_beginEverywhere.desc).map (fun d => d.parameters.length) = some 0 := by decide +kernel
theorem hd_X4_go : yX4_go.cls = RX4 ∧ yX4_go.cls ≠ "java/lang/invoke/MethodHandle" ∧ yX4_go.cls ≠ "java/lang/invoke/VarHandle" ∧ (parseMethodDescriptor yX4_go.desc).map (fun d => d.parameters.length) = some 2 := by decide +kernel
theorem hd_X4_endingAt : yX4_endingAt.cls = RX4 ∧ yX4_endingAt.cls ≠ "java/lang/invoke/MethodHandle" ∧ yX4_endingAt.cls ≠ "java/lang/invoke/VarHandle" ∧ (parseMethodDescriptor yX4_endingAt.desc).map (fun d => d.parameters.length) = some 1 := by decide +kernel
theorem hd_X4_endingAnywhere : yX4_endingAnywhere.cls = RX4 ∧ yX4_endingAnywhere.cls ≠ "java/lang/invoke/MethodHandle" ∧ yX4_endingAnywhere.cls ≠ "java/lang/invoke/VarHandle" ∧ (parseMethodDescriptor yX4_endingAnywhere.desc).map (fun d => d.parameters.length) = some 0 := by decide +kernel
theorem hd_X4_lengthenedTo : yX4_lengthenedTo.cls = RX4 ∧ yX4_lengthenedTo.cls ≠ "java/lang/invoke/MethodHandle" ∧ yX4_lengthenedTo.cls ≠ "java/lang/invoke/VarHandle" ∧ (parseMethodDescriptor yX4_lengthenedTo.desc).map (fun d => d.parameters.length) = some 2 := by decide +kernel
theorem hd_X0_allStates : yX0_allStates.cls ≠ "java/lang/invoke/MethodHandle" ∧ yX0_allStates.cls ≠ "java/lang/invoke/VarHandle" ∧ (parseMethodDescriptor yX0_allStates.desc).map (fun d => d.parameters.length) = some 1 := by decide +kernel
theorem hd_X0_statesAfter : yX0_statesAfter.cls ≠ "java/lang/invoke/MethodHandle" ∧ yX0_statesAfter.cls ≠ "java/lang/invoke/VarHandle" ∧ (parseMethodDescriptor yX0_statesAfter.desc).map (fun d => d.parameters.length) = some 2 := by decide +kernel
theorem hd_X0_statesBefore : yX0_statesBefore.cls ≠ "java/lang/invoke/MethodHandle" ∧ yX0_statesBefore.cls ≠ "java/lang/invoke/VarHandle" ∧ (parseMethodDescriptor yX0_statesBefore.desc).map (fun d => d.parameters.length) = some 2 := by decide +kernel
theorem hd_X0_essentialSet : yX0_essentialSet.cls ≠ "java/lang/invoke/MethodHandle" ∧ yX0_essentialSet.cls ≠ "java/lang/invoke/VarHandle" ∧ (parseMethodDescriptor yX0_essentialSet.desc).map (fun d => d.parameters.length) = some 1 := by decide +kernel
theorem hd_X0_lowestOfComponent : yX0_lowestOfComponent.cls ≠ "java/lang/invoke/MethodHandle" ∧ yX0_lowestOfComponent.cls ≠ "java/lang/invoke/VarHandle" ∧ (parseMethodDescriptor yX0_lowestOfComponent.desc).map (fun d => d.parameters.length) = some 2 := by decide +kernel
theorem hd_X0_componentsBelow : yX0_componentsBelow.cls ≠ "java/lang/invoke/MethodHandle" ∧ yX0_componentsBelow.cls ≠ "java/lang/invoke/VarHandle" ∧ (parseMethodDescriptor yX0_componentsBelow.desc).map (fun d => d.parameters.length) = some 2 := by decide +kernel
theorem hd_X0_divisorOfReturns : yX0_divisorOfReturns.cls ≠ "java/lang/invoke/MethodHandle" ∧ yX0_divisorOfReturns.cls ≠ "java/lang/invoke/VarHandle" ∧ (parseMethodDescriptor yX0_divisorOfReturns.desc).map (fun d => d.parameters.length) = some 2 := by decide +kernel
theorem hd_X0_componentSet : yX0_componentSet.cls ≠ "java/lang/invoke/MethodHandle" ∧ yX0_componentSet.cls ≠ "java/lang/invoke/VarHandle" ∧ (parseMethodDescriptor yX0_componentSet.desc).map (fun d => d.parameters.length) = some 2 := by decide +kernel
theorem hd_X0_directlyAfter : yX0_directlyAfter.cls ≠ "java/lang/invoke/MethodHandle" ∧ yX0_directlyAfter.cls ≠ "java/lang/invoke/VarHandle" ∧ (parseMethodDescriptor yX0_directlyAfter.desc).map (fun d => d.parameters.length) = some 2 := by decide +kernel
theorem hd_X5_greatestCommonDivisor : yX5_greatestCommonDivisor.cls ≠ "java/lang/invoke/MethodHandle" ∧ yX5_greatestCommonDivisor.cls ≠ "java/lang/invoke/VarHandle" ∧ (parseMethodDescriptor yX5_greatestCommonDivisor.desc).map (fun d => d.parameters.length) = some 2 := by decide +kernel
