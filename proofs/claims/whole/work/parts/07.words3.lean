/-! words of the third part: minors -/
abbrev mnW (G : gG) (q ca cr cm n : Nat) (e : Nat → Int64) (h : Nat → Nat) (g : Nat → Int64) : va_W := [(q, .inr (2, [.int (nI n), .ref ca, .ref cr, .ref cm])), (ca, .inl (gJ G, 36, .inr (.inl e))), (cr, .inl (gI G, 6, .inl (nF h))), (cm, .inl (gJ G, 64, .inr (.inl g)))]
/-- how many bits below the sixth -/
def pc (v : Nat) : Nat := it (fun i c => if v.testBit i = true then c + 1 else c) 6 0
theorem pc_le : ∀ v, v < 64 → pc v ≤ 6 := by decide +kernel
def bcS (x : Int32) (c : Int32) : Int32 := (x.toUInt32 >>> (c.toUInt32 &&& Int32.toUInt32 31)).toInt32
theorem bcS_d (x c : Int32) : (x.toUInt32 >>> (c.toUInt32 &&& Int32.toUInt32 31)).toInt32 = bcS x c := by rw [bcS]
def bc1 (x : Int32) : Int32 := x - (bcS x (nI 1) &&& 1431655765)
def bc2 (x : Int32) : Int32 := (bc1 x &&& 858993459) + (bcS (bc1 x) (nI 2) &&& 858993459)
def bc3 (x : Int32) : Int32 := (bc2 x + bcS (bc2 x) (nI 4)) &&& 252645135
def bc4 (x : Int32) : Int32 := bc3 x + bcS (bc3 x) (nI 8)
def bc5 (x : Int32) : Int32 := bc4 x + bcS (bc4 x) (nI 16)
theorem bc1_d (x : Int32) : x - (bcS x (nI 1) &&& 1431655765) = bc1 x := by rw [bc1]
theorem bc2_d (x : Int32) : (bc1 x &&& 858993459) + (bcS (bc1 x) (nI 2) &&& 858993459) = bc2 x := by rw [bc2]
theorem bc3_d (x : Int32) : (bc2 x + bcS (bc2 x) (nI 4)) &&& 252645135 = bc3 x := by rw [bc3]
theorem bc4_d (x : Int32) : bc3 x + bcS (bc3 x) (nI 8) = bc4 x := by rw [bc4]
theorem bc5_d (x : Int32) : bc4 x + bcS (bc4 x) (nI 16) = bc5 x := by rw [bc5]
theorem bc_pc : ∀ v, v < 64 → bc5 (nI v) &&& nI 63 = nI (pc v) := by decide +kernel
theorem p2_le {n : Nat} (h : n ≤ 6) : 2 ^ n ≤ 64 := Nat.pow_le_pow_right (n := 2) (by decide) h
theorem bit_lt6 {s i : Nat} (h : s < 64) (hb : s.testBit i = true) : i < 6 := by
  rcases Nat.lt_or_ge i 6 with q | q
  · exact q
  · have h1 : s < 2 ^ i := Nat.lt_of_lt_of_le h (Nat.pow_le_pow_right (n := 2) (i := 6) (by decide) q)
    rw [Nat.testBit_lt_two_pow h1] at hb
    cases hb
theorem bit_ltn {s i n : Nat} (h : s < 2 ^ n) (hb : s.testBit i = true) : i < n := by
  rcases Nat.lt_or_ge i n with q | q
  · exact q
  · have h1 : s < 2 ^ i := Nat.lt_of_lt_of_le h (Nat.pow_le_pow_right (n := 2) (by decide) q)
    rw [Nat.testBit_lt_two_pow h1] at hb
    cases hb
theorem bit_ge {s i : Nat} (hb : s.testBit i = true) : 2 ^ i ≤ s := Nat.ge_two_pow_of_testBit hb
theorem clr_all : ∀ s, s < 64 → ∀ i, i < 6 → s.testBit i = true → nI s &&& (nI (2 ^ i) ^^^ (-1)) = nI (s - 2 ^ i) := by decide +kernel
theorem clr_bit {s i : Nat} (hs : s < 64) (hb : s.testBit i = true) : nI s &&& (nI (2 ^ i) ^^^ (-1)) = nI (s - 2 ^ i) := clr_all s hs i (bit_lt6 hs hb) hb
theorem sb_facts : ∀ s, s < 64 → ∀ i, i < 6 → s.testBit i = true → pc (s - 2 ^ i) + 1 = pc s := by decide +kernel
theorem sb_bits : ∀ s, s < 64 → ∀ i, i < 6 → s.testBit i = true → ∀ j, j < 6 → (s - 2 ^ i).testBit j = (s.testBit j && decide (j ≠ i)) := by decide +kernel
theorem sb_and : ∀ s, s < 64 → ∀ c, c < 64 → s &&& c = s → ∀ i, i < 6 → s.testBit i = true → (s - 2 ^ i) &&& c = s - 2 ^ i := by decide +kernel
theorem pc_0 : ∀ s, s < 64 → (pc s = 0 ↔ s = 0) := by decide +kernel
theorem pc_bit : ∀ s, s < 64 → 0 < s → ∃ i, i < 6 ∧ s.testBit i = true := by decide +kernel
/-- a row's expansion over the columns below i of a set: the highest has plus -/
def exF (e g : Nat → Int64) (row set : Nat) : Nat → Int64
  | 0 => 0
  | i + 1 => if set.testBit i = true then e (row * 6 + i) * g (set - 2 ^ i) - exF e g row set i else exF e g row set i
/-- the rows of a set, from the lowest -/
def chR (rows k : Nat) (p : (Nat → Nat) × Nat) : (Nat → Nat) × Nat := it (fun i p => if rows.testBit i = true then (updN p.1 p.2 i, p.2 + 1) else p) k p
def rw6 (rows : Nat) : Nat → Nat := (chR rows 6 (fun _ => 0, 0)).1
theorem chR_s (rows k : Nat) (p : (Nat → Nat) × Nat) : chR rows (k + 1) p = if rows.testBit k = true then (updN (chR rows k p).1 (chR rows k p).2 k, (chR rows k p).2 + 1) else chR rows k p := rfl
theorem chR_cnt (rows : Nat) (h h' : Nat → Nat) : ∀ k, (chR rows k (h, 0)).2 = (chR rows k (h', 0)).2 ∧ ∀ x, x < (chR rows k (h, 0)).2 → (chR rows k (h, 0)).1 x = (chR rows k (h', 0)).1 x
  | 0 => ⟨rfl, fun x hx => absurd hx (Nat.not_lt_zero x)⟩
  | k + 1 => by
    obtain ⟨h1, h2⟩ := chR_cnt rows h h' k
    rw [chR_s, chR_s]
    split
    · refine ⟨by simp only [h1], fun x hx => ?_⟩
      simp only [updN, ← h1]
      split
      · rfl
      · exact h2 x (by simp only at hx; omega)
    · exact ⟨h1, h2⟩
theorem chR_le (rows : Nat) (h : Nat → Nat) : ∀ k, (chR rows k (h, 0)).2 ≤ k
  | 0 => Nat.le_refl 0
  | k + 1 => by
    have := chR_le rows h k
    rw [chR_s]; split
    · simp only; omega
    · omega
theorem chR_val (rows : Nat) (h : Nat → Nat) : ∀ k x, x < (chR rows k (h, 0)).2 → (chR rows k (h, 0)).1 x < k
  | 0, x, hx => absurd hx (Nat.not_lt_zero x)
  | k + 1, x, hx => by
    rw [chR_s] at hx ⊢
    split at hx
    · rename_i hb
      rw [if_pos hb]
      simp only [updN] at hx ⊢
      split
      · omega
      · have := chR_val rows h k x (by omega); omega
    · rename_i hb
      rw [if_neg hb]
      have := chR_val rows h k x hx; omega
theorem chR_up {rows n : Nat} (hr : rows < 2 ^ n) (p : (Nat → Nat) × Nat) : ∀ d, chR rows (n + d) p = chR rows n p
  | 0 => rfl
  | d + 1 => by
    rw [show n + (d + 1) = n + d + 1 by omega, chR_s, if_neg, chR_up hr p d]
    rw [Nat.testBit_lt_two_pow (Nat.lt_of_lt_of_le hr (Nat.pow_le_pow_right (by decide) (by omega)))]
    decide
theorem chR_pc : ∀ rows, rows < 64 → (chR rows 6 (fun _ => 0, 0)).2 = pc rows := by decide +kernel
theorem chR_end {rows n : Nat} (hn : n ≤ 6) (hr : rows < 2 ^ n) (h : Nat → Nat) : (chR rows n (h, 0)).2 = pc rows ∧ ∀ x, x < pc rows → (chR rows n (h, 0)).1 x = rw6 rows x := by
  have h64 : rows < 64 := Nat.lt_of_lt_of_le hr (p2_le hn)
  obtain ⟨d, hd⟩ : ∃ d, 6 = n + d := ⟨6 - n, by omega⟩
  have e0 := chR_pc rows h64
  obtain ⟨e1, e2⟩ := chR_cnt rows h (fun _ => 0) n
  have e3 : chR rows n (fun _ => 0, 0) = chR rows 6 (fun _ => 0, 0) := by rw [hd, chR_up hr]
  rw [e3, e0] at e1
  refine ⟨e1, fun x hx => ?_⟩
  rw [e2 x (by rw [e1]; exact hx), e3]
  rfl
theorem rw6_lt {rows n x : Nat} (hn : n ≤ 6) (hr : rows < 2 ^ n) (hx : x < pc rows) : rw6 rows x < n := by
  obtain ⟨h1, h2⟩ := chR_end hn hr (fun _ => 0)
  rw [← h2 x hx]
  exact chR_val rows _ n x (by rw [h1]; exact hx)
/-- the determinant of the first k of some rows and a set of k columns -/
def dtK (e : Nat → Int64) (R : Nat → Nat) : Nat → Nat → Int64
  | 0, _ => 1
  | k + 1, set => exF e (dtK e R k) (R k) set 6
theorem exF_up {e g : Nat → Int64} {row set n : Nat} (hs : set < 2 ^ n) : ∀ d, exF e g row set (n + d) = exF e g row set n
  | 0 => rfl
  | d + 1 => by
    rw [show n + (d + 1) = n + d + 1 by omega, exF, if_neg, exF_up hs d]
    rw [Nat.testBit_lt_two_pow (Nat.lt_of_lt_of_le hs (Nat.pow_le_pow_right (by decide) (by omega)))]
    decide
theorem exF_cong {e g g' : Nat → Int64} {row set : Nat} : ∀ n, (∀ i, i < n → set.testBit i = true → g (set - 2 ^ i) = g' (set - 2 ^ i)) → exF e g row set n = exF e g' row set n
  | 0, _ => rfl
  | n + 1, h => by
    rw [exF, exF, exF_cong n (fun i hi => h i (by omega))]
    split
    · rename_i hb
      rw [h n (by omega) hb]
    · rfl
theorem exF_6 {e g g' : Nat → Int64} {row set n : Nat} (hn : n ≤ 6) (hs : set < 2 ^ n) (h : ∀ i, i < 6 → set.testBit i = true → g (set - 2 ^ i) = g' (set - 2 ^ i)) : exF e g row set n = exF e g' row set 6 := by
  obtain ⟨d, hd⟩ : ∃ d, 6 = n + d := ⟨6 - n, by omega⟩
  rw [hd, exF_up hs d]
  exact exF_cong n (fun i hi => h i (by omega))
/-- what is laid down for a set, the smaller ones laid -/
def wvF (n : Nat) (e : Nat → Int64) (h : Nat → Nat) (cnt cols set : Nat) (g : Nat → Int64) : Int64 := if set &&& cols = set ∧ pc set ≤ cnt then exF e g (h (pc set - 1)) set n else 0
def mnV (e : Nat → Int64) (rows cols set : Nat) : Int64 := if set &&& cols = set ∧ pc set ≤ pc rows then dtK e (rw6 rows) (pc set) set else 0
def mnJ (e : Nat → Int64) (rows cols k : Nat) (g : Nat → Int64) : Prop := ∀ set, set < k → g set = mnV e rows cols set
theorem mnJ_1 (e : Nat → Int64) (rows cols : Nat) (g : Nat → Int64) : mnJ e rows cols 1 (vp_updL g 0 1) := by
  intro set hs
  have : set = 0 := by omega
  subst this
  have h0 : pc 0 = 0 := by decide
  rw [pk_uLs, mnV, if_pos ⟨Nat.zero_and cols, by rw [h0]; exact Nat.zero_le _⟩, h0]
  rfl
theorem mnJ_s {n : Nat} {e : Nat → Int64} {h : Nat → Nat} {rows cols set : Nat} {g : Nat → Int64} (hn : n ≤ 6) (hr : rows < 2 ^ n) (hc : cols < 2 ^ n) (hs0 : 1 ≤ set) (hs : set < 2 ^ n) (hh : ∀ x, x < pc rows → h x = rw6 rows x) (hg : mnJ e rows cols set g) : mnJ e rows cols (set + 1) (vp_updL g set (wvF n e h (pc rows) cols set g)) := by
  intro s hs1
  have h64 : set < 64 := Nat.lt_of_lt_of_le hs (p2_le hn)
  have c64 : cols < 64 := Nat.lt_of_lt_of_le hc (p2_le hn)
  by_cases he : s = set
  · subst he
    rw [pk_uLs, wvF, mnV]
    split
    · rename_i hw
      have hp : pc s ≠ 0 := fun q => by have := (pc_0 s h64).mp q; omega
      obtain ⟨k, hk⟩ : ∃ k, pc s = k + 1 := ⟨pc s - 1, by omega⟩
      rw [hk, show k + 1 - 1 = k by omega, hh k (by omega)]
      show _ = exF e (dtK e (rw6 rows) k) (rw6 rows k) s 6
      refine exF_6 hn hs (fun i hi hb => ?_)
      have hlt : s - 2 ^ i < s := Nat.sub_lt (by omega) (Nat.two_pow_pos i)
      rw [hg _ hlt, mnV]
      have hpc := sb_facts s h64 i hi hb
      rw [if_pos ⟨sb_and s h64 cols c64 hw.1 i hi hb, by omega⟩, show pc (s - 2 ^ i) = k by omega]
    · rfl
  · rw [pk_uLn he]
    exact hg s (by omega)
def tkR (d t : Int64) (src : Nat → Nat → Nat) (i j : Nat) : Int64 := (if i = j then d else 0) + t * lN (src i j)
def tkF (d t : Int64) (src : Nat → Nat → Nat) (k : Nat) (e : Nat → Int64) : Nat → Int64 := it (fun i e => it (fun j e => vp_updL e (i * 6 + j) (tkR d t src i j)) 6 e) k e
theorem exP_0 (x : Int64) : (0 : Int64) + (nI 1).toInt64 * x = x := by
  show (0 : Int64) + 1 * x = x
  rw [Int64.zero_add, Int64.one_mul]
theorem exP_s {s x r : Int64} {m : Int64} : s + m * x + (-m) * r = s + m * (x - r) := by grind
theorem neg_toL {sg : Int32} (h : sg = 1 ∨ sg = -1) : (-sg).toInt64 = -sg.toInt64 ∧ (-sg = 1 ∨ -sg = -1) := by
  rcases h with rfl | rfl <;> decide
def psF (e : Nat → Int64) (k i : Nat) : Int64 := it (fun s acc => if pc s = k then acc + mnV e s s s else acc) i 0
def absL (x : Int64) : Nat := x.toInt.natAbs
theorem absL_lN {x : Int64} (h : absL x < 4611686018427387904) : (if 0 < x then x else -x) = lN (absL x) := by
  unfold absL at *
  by_cases h0 : 0 < x
  · rw [if_pos h0]
    have h1 : 0 < x.toInt := Int64.lt_iff_toInt_lt.mp h0
    apply Int64.toInt_inj.mp
    rw [pk_lT (Nat.lt_trans h (by decide))]
    omega
  · rw [if_neg h0]
    have h1 : ¬ 0 < x.toInt := fun q => h0 (Int64.lt_iff_toInt_lt.mpr q)
    apply Int64.toInt_inj.mp
    rw [pk_lT (Nat.lt_trans h (by decide)), Int64.toInt_neg]
    have h2 : -4611686018427387904 < x.toInt := by omega
    rw [Int.bmod_eq_of_le] <;> omega
def dwF (f : Nat → Int64) (k i d : Nat) : Nat := it (fun s d => if pc s = k then Nat.gcd d (absL (f s)) else d) i d
def cdF (e : Nat → Int64) (n k i : Nat) : Nat := it (fun rows d => if pc rows = k then dwF (mnV e rows (2 ^ n - 1)) k (2 ^ n) d else d) i 0
def mnB (n : Nat) (e : Nat → Int64) : Prop := ∀ rows set, rows < 2 ^ n → set < 2 ^ n → absL (mnV e rows (2 ^ n - 1) set) < 4611686018427387904
theorem dwF_lt {f : Nat → Int64} {k d : Nat} (hd : d < 4611686018427387904) : ∀ i, (∀ s, s < i → absL (f s) < 4611686018427387904) → dwF f k i d < 4611686018427387904
  | 0, _ => hd
  | i + 1, h => by
    show (if pc i = k then Nat.gcd (dwF f k i d) (absL (f i)) else dwF f k i d) < _
    have h1 := dwF_lt (k := k) hd i (fun s hs => h s (by omega))
    have h2 := h i (by omega)
    split
    · rcases Nat.eq_zero_or_pos (dwF f k i d) with q | q
      · rw [q, Nat.gcd_zero_left]; exact h2
      · exact Nat.lt_of_le_of_lt (Nat.le_of_dvd q (Nat.gcd_dvd_left _ _)) h1
    · exact h1
theorem cdF_lt {n : Nat} {e : Nat → Int64} (k : Nat) (hb : mnB n e) : ∀ i, i ≤ 2 ^ n → cdF e n k i < 4611686018427387904
  | 0, _ => by show 0 < _; decide
  | i + 1, h => by
    show (if pc i = k then dwF (mnV e i (2 ^ n - 1)) k (2 ^ n) (cdF e n k i) else cdF e n k i) < _
    split
    · exact dwF_lt (cdF_lt k hb i (by omega)) _ (fun s hs => hb i s (by omega) hs)
    · exact cdF_lt k hb i (by omega)
theorem dwF_one (f : Nat → Int64) (k : Nat) : ∀ i, dwF f k i 1 = 1
  | 0 => rfl
  | i + 1 => by
    show (if pc i = k then Nat.gcd (dwF f k i 1) (absL (f i)) else dwF f k i 1) = 1
    rw [dwF_one f k i]; split
    · exact Nat.gcd_one_left _
    · rfl
theorem cdF_one {e : Nat → Int64} {n k i : Nat} (h : cdF e n k i = 1) : ∀ d, cdF e n k (i + d) = 1
  | 0 => h
  | d + 1 => by
    show (if pc (i + d) = k then dwF (mnV e (i + d) (2 ^ n - 1)) k (2 ^ n) (cdF e n k (i + d)) else cdF e n k (i + d)) = 1
    rw [cdF_one h d]; split
    · exact dwF_one _ _ _
    · rfl
theorem cdF_stop {e : Nat → Int64} {n k i m : Nat} (h : cdF e n k i = 1) (hi : i ≤ m) : cdF e n k m = cdF e n k i := by
  obtain ⟨d, rfl⟩ : ∃ d, m = i + d := ⟨m - i, by omega⟩
  rw [cdF_one h d, h]
theorem dwF_s (f : Nat → Int64) (k i d : Nat) : dwF f k (i + 1) d = if pc i = k then Nat.gcd (dwF f k i d) (absL (f i)) else dwF f k i d := rfl
theorem dwF_z (f : Nat → Int64) (k d : Nat) : dwF f k 0 d = d := rfl
theorem dwF_0 (f g : Nat → Int64) (k d : Nat) : dwF f k 0 d = dwF g k 0 d := by rw [dwF_z, dwF_z]
theorem dwF_cs {f g : Nat → Int64} {k i d : Nat} (h1 : dwF f k i d = dwF g k i d) (h2 : f i = g i) : dwF f k (i + 1) d = dwF g k (i + 1) d := by
  rw [dwF_s, dwF_s, h1, h2]
theorem dwF_cong {f g : Nat → Int64} {k d : Nat} (i : Nat) : (∀ s, s < i → f s = g s) → dwF f k i d = dwF g k i d := by
  induction i with
  | zero => exact fun _ => dwF_0 f g k d
  | succ i ih => exact fun h => dwF_cs (ih (fun s hs => h s (by omega))) (h i (by omega))
def lePb (n : Nat) (e : Nat → Int64) : Bool := decide (∀ j, j < n → 0 < mnV e (2 ^ n - 1) (2 ^ n - 1) (2 ^ (j + 1) - 1))
def leP (n : Nat) (e : Nat → Int64) (k : Nat) : Prop := ∀ j, j < k → 0 < mnV e (2 ^ n - 1) (2 ^ n - 1) (2 ^ (j + 1) - 1)
theorem lN_one {d : Nat} (h : d < 4611686018427387904) (h1 : lN d = 1) : d = 1 := (pk_lEQ (b := 1) (Nat.lt_trans h (by decide)) (by decide)).mp h1
theorem hd_X3_take : yX3_take.cls = RX3 ∧ yX3_take.cls ≠ "java/lang/invoke/MethodHandle" ∧ yX3_take.cls ≠ "java/lang/invoke/VarHandle" ∧ (parseMethodDescriptor yX3_take.desc).map (fun d => d.parameters.length) = some 3 := by decide +kernel
theorem hd_X3_ofAll : yX3_ofAll.cls = RX3 ∧ yX3_ofAll.cls ≠ "java/lang/invoke/MethodHandle" ∧ yX3_ofAll.cls ≠ "java/lang/invoke/VarHandle" ∧ (parseMethodDescriptor yX3_ofAll.desc).map (fun d => d.parameters.length) = some 0 := by decide +kernel
theorem hd_X3_leadingArePositive : yX3_leadingArePositive.cls = RX3 ∧ yX3_leadingArePositive.cls ≠ "java/lang/invoke/MethodHandle" ∧ yX3_leadingArePositive.cls ≠ "java/lang/invoke/VarHandle" ∧ (parseMethodDescriptor yX3_leadingArePositive.desc).map (fun d => d.parameters.length) = some 0 := by decide +kernel
theorem hd_X3_principalSum : yX3_principalSum.cls = RX3 ∧ yX3_principalSum.cls ≠ "java/lang/invoke/MethodHandle" ∧ yX3_principalSum.cls ≠ "java/lang/invoke/VarHandle" ∧ (parseMethodDescriptor yX3_principalSum.desc).map (fun d => d.parameters.length) = some 1 := by decide +kernel
theorem hd_X3_commonDivisor : yX3_commonDivisor.cls = RX3 ∧ yX3_commonDivisor.cls ≠ "java/lang/invoke/MethodHandle" ∧ yX3_commonDivisor.cls ≠ "java/lang/invoke/VarHandle" ∧ (parseMethodDescriptor yX3_commonDivisor.desc).map (fun d => d.parameters.length) = some 1 := by decide +kernel
theorem hd_X3_divisorWithMinors : yX3_divisorWithMinors.cls = RX3 ∧ yX3_divisorWithMinors.cls ≠ "java/lang/invoke/MethodHandle" ∧ yX3_divisorWithMinors.cls ≠ "java/lang/invoke/VarHandle" ∧ (parseMethodDescriptor yX3_divisorWithMinors.desc).map (fun d => d.parameters.length) = some 2 := by decide +kernel
theorem hd_X3_expand : yX3_expand.cls = RX3 ∧ yX3_expand.cls ≠ "java/lang/invoke/MethodHandle" ∧ yX3_expand.cls ≠ "java/lang/invoke/VarHandle" ∧ (parseMethodDescriptor yX3_expand.desc).map (fun d => d.parameters.length) = some 2 := by decide +kernel
theorem hd_X3_chooseRows : yX3_chooseRows.cls = RX3 ∧ yX3_chooseRows.cls ≠ "java/lang/invoke/MethodHandle" ∧ yX3_chooseRows.cls ≠ "java/lang/invoke/VarHandle" ∧ (parseMethodDescriptor yX3_chooseRows.desc).map (fun d => d.parameters.length) = some 1 := by decide +kernel
theorem hd_X3_expandedByLastRow : yX3_expandedByLastRow.cls = RX3 ∧ yX3_expandedByLastRow.cls ≠ "java/lang/invoke/MethodHandle" ∧ yX3_expandedByLastRow.cls ≠ "java/lang/invoke/VarHandle" ∧ (parseMethodDescriptor yX3_expandedByLastRow.desc).map (fun d => d.parameters.length) = some 2 := by decide +kernel
theorem hd_J6_bitCount_0f7a4 : yJ6_bitCount_0f7a4.cls ≠ "java/lang/invoke/MethodHandle" ∧ yJ6_bitCount_0f7a4.cls ≠ "java/lang/invoke/VarHandle" ∧ (parseMethodDescriptor yJ6_bitCount_0f7a4.desc).map (fun d => d.parameters.length) = some 1 := by decide +kernel
