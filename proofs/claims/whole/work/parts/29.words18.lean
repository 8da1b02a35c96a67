/-! words of the eighteenth part: what the reference's walks, trims and rows of numbers come to -/
theorem zmeas {P : Nat → Prop} (h : ∀ t, (∀ t', t' < t → P t') → P t) (t : Nat) : P t := Nat.strongRecOn t h
theorem MI_kp {nw bf sh : Nat → Nat} {um : Nat} (hI : MI nw bf sh um) : MI nw (kpB nw bf um) sh (kpM um + 1) := by
  obtain ⟨g1, g3, hN, hB, hS, hu, hz, hbz⟩ := id hI
  exact MI_keep hI g1 g3 hN hz
def tmJ (nw nq : Nat → Nat) (i : Nat) : Prop := trR (essV (nw 0) (rvV nw 0)) i (amM nq 0) = trR (essV (nw 0) (rvV nw 0)) (nw 0) (amM nw 0) ∧ nq 0 + cbB (essV (nw 0) (rvV nw 0)) i = i + cbB (essV (nw 0) (rvV nw 0)) (nw 0) ∧ amM nq 37 = amM nw 37
theorem tm_0 (nw : Nat → Nat) : tmJ nw nw (nw 0) := ⟨rfl, rfl, rfl⟩
theorem tm_k {nw nq : Nat → Nat} {i : Nat} (hb : (essV (nw 0) (rvV nw 0)).testBit i = true) (h : tmJ nw nq (i + 1)) : tmJ nw nq i := by
  obtain ⟨h1, h2, h3⟩ := h
  rw [cbB_s, if_pos hb] at h2
  rw [trR, if_pos hb] at h1
  exact ⟨h1, by omega, h3⟩
theorem tm_lo {nw nq : Nat → Nat} {i : Nat} (hi : i < nw 0) (h : tmJ nw nq (i + 1)) : i < nq 0 := by
  obtain ⟨h1, h2, h3⟩ := h
  have h4 := cbB_mono (essV (nw 0) (rvV nw 0)) (i + 1) (nw 0 - (i + 1))
  rw [show i + 1 + (nw 0 - (i + 1)) = nw 0 by omega] at h4
  omega
theorem tm_2 {nw nq : Nat → Nat} {i : Nat} (hi : i < nw 0) (he : 1 ≤ cbB (essV (nw 0) (rvV nw 0)) (nw 0)) (hb : (essV (nw 0) (rvV nw 0)).testBit i = false) (h : tmJ nw nq (i + 1)) : 2 ≤ nq 0 := by
  have h0 := tm_lo hi h
  obtain ⟨h1, h2, h3⟩ := h
  have h4 := cbB_le (essV (nw 0) (rvV nw 0)) i
  rw [cbB_s, if_neg (by rw [hb]; decide)] at h2
  omega
theorem tm_r {nw nq : Nat → Nat} {i : Nat} (hb : (essV (nw 0) (rvV nw 0)).testBit i = false) (hi : i < nq 0) (h6 : nq 0 ≤ 6) (h37 : nq 37 ≤ 6) (h : tmJ nw nq (i + 1)) : tmJ nw (goM i nq) i := by
  obtain ⟨h1, h2, h3⟩ := h
  rw [cbB_s, if_neg (by rw [hb]; decide)] at h2
  rw [trR, if_neg (by rw [hb]; decide)] at h1
  refine ⟨?_, ?_, ?_⟩
  · rw [am_goes hi h6]; exact h1
  · rw [goM_0]; omega
  · rw [am_goes2 hi h6 h37]; exact h3
theorem tm_no {nw bf sh : Nat → Nat} {um : Nat} {c : MC} (hI : MI nw bf sh um) (h0 : essV (nw 0) (rvV nw 0) = 0) : mcP (spTrim (asM nw bf sh um)) (-1000002) ((nw, bf, sh, um), c) := by
  have e : spTrim (asM nw bf sh um) = (-1000002, asM nw bf sh um) := by
    show spTrimC (nw 0) (rvV nw 0) (amM nw 37) (hiM bf um) sh = _
    unfold spTrimC
    rw [if_pos h0]
    rfl
  rw [e]
  exact ⟨rfl, rfl, hI⟩
theorem tm_ok {nw bf sh nq : Nat → Nat} {um : Nat} {c : MC} (hI : MI nw bf sh um) (h0 : essV (nw 0) (rvV nw 0) ≠ 0) (hq : MI nq (kpB nw bf um) sh (kpM um + 1)) (h : tmJ nw nq 0) : mcP (spTrim (asM nw bf sh um)) (nI (nw 0 - nq 0)) ((nq, kpB nw bf um, sh, kpM um + 1), c) := by
  obtain ⟨h1, h2, h3⟩ := h
  have h1 : amM nq 0 = trR (essV (nw 0) (rvV nw 0)) (nw 0) (nw 0, rvV nw 0) := h1
  have e : spTrim (asM nw bf sh um) = (nI (nw 0 - nq 0), (amM nq 0, amM nw 37, kpS (asM nw bf sh um), sh)) := by
    show spTrimC (nw 0) (rvV nw 0) (amM nw 37) (hiM bf um) sh = _
    unfold spTrimC
    rw [if_neg h0, ← h1]
    rfl
  rw [e]
  exact ⟨rfl, asM_keep hI nq rfl h3, hq⟩
theorem tm_le {nw nq : Nat → Nat} (h : tmJ nw nq 0) : nq 0 ≤ nw 0 := by
  have := cbB_le (essV (nw 0) (rvV nw 0)) (nw 0)
  have := h.2.1
  have e : cbB (essV (nw 0) (rvV nw 0)) 0 = 0 := rfl
  omega
/-! whether any entry is not 0 -/
def anF (nw : Nat → Nat) (k : Nat) : Bool := it (fun k b => b || decide (0 < nw (k + 1))) k false
theorem anF_iff (nw : Nat → Nat) : ∀ k, anF nw k = true ↔ ∃ x, x < k ∧ 0 < nw (x + 1)
  | 0 => by show false = true ↔ _; simp
  | k + 1 => by
    have ih := anF_iff nw k
    show (anF nw k || decide (0 < nw (k + 1))) = true ↔ _
    rw [Bool.or_eq_true, decide_eq_true_eq, ih]
    constructor
    · rintro (⟨x, a, b⟩ | b)
      · exact ⟨x, by omega, b⟩
      · exact ⟨k, by omega, b⟩
    · rintro ⟨x, a, b⟩
      by_cases e : x = k
      · subst e; exact Or.inr b
      · exact Or.inl ⟨x, by omega, b⟩
theorem an_gc {nw bf sh : Nat → Nat} {um : Nat} (hI : MI nw bf sh um) : anF nw 36 = true ↔ 0 < gcF (nw 0) (rvV nw 0) (nw 0) := by
  obtain ⟨g1, g3, hN, hB, hS, hu, hz, hbz⟩ := hI
  rw [anF_iff]
  constructor
  · rintro ⟨x, hx, h⟩
    have e : x + 1 = 0 + (1 + 6 * (x / 6) + x % 6) := by omega
    have hr : x / 6 < nw 0 ∧ x % 6 < nw 0 := by
      apply Classical.byContradiction
      intro hc
      have := hz 0 (Or.inl rfl) (x / 6) (x % 6) (by omega) (by omega) hc
      rw [← e] at this
      omega
    have := gcF_ge (nw 0) (rvV nw 0) (nw 0) (x / 6) (x % 6) hr.1 hr.2
    rw [rvV, if_pos hr, ← e] at this
    omega
  · intro h
    apply Classical.byContradiction
    intro hc
    have : gcF (nw 0) (rvV nw 0) (nw 0) ≤ 0 := gcF_le _ _ 0 _ (fun i j hi hj => by
      rw [rvV, if_pos ⟨hi, hj⟩]
      apply Classical.byContradiction
      intro hp
      exact hc ⟨6 * i + j, by omega, by rw [show 6 * i + j + 1 = 0 + (1 + 6 * i + j) by omega]; omega⟩)
    omega
/-! the greatest divisor of two numbers that may be negative -/
theorem absL_lNN {k : Nat} (h : k < 4611686018427387904) : absL (lN k) = k := by
  unfold absL
  rw [pk_lT (Nat.lt_trans h (by decide))]
  omega
theorem cm_p {x : Int64} (hb : absL x < 4611686018427387904) (h : 0 ≤ x) : x = lN (absL x) := by
  have h1 := absL_lN hb
  by_cases h0 : 0 < x
  · rw [if_pos h0] at h1; exact h1
  · rw [if_neg h0] at h1
    have : x = 0 := Int64.le_antisymm (Int64.not_lt.mp h0) h
    rw [← h1, this]; rfl
theorem cm_n {x : Int64} (hb : absL x < 4611686018427387904) (h : ¬ 0 ≤ x) : -x = lN (absL x) := by
  have h1 := absL_lN hb
  rw [if_neg (fun q => h (Int64.le_of_lt q))] at h1
  exact h1
/-! the states behind some, as the reference lays them -/
def thR (nw : Nat → Nat) (set i k t : Nat) : Nat := it (fun j t => t ||| (if set.testBit i = true ∧ 0 < nw (1 + 6 * i + j) then 2 ^ j else 0)) k t
def thF (nw : Nat → Nat) (set k : Nat) : Nat := it (fun i t => thR nw set i (nw 0) t) k 0
theorem thR_lt {nw : Nat → Nat} {set i t : Nat} (ht : t < 64) : ∀ k, k ≤ 6 → thR nw set i k t < 64
  | 0, _ => ht
  | k + 1, hk => by
    refine or_b64 (thR_lt ht k (by omega)) ?_
    split
    · exact Nat.pow_lt_pow_right (n := 6) (by decide) (by omega)
    · decide
theorem thF_lt {nw : Nat → Nat} {set : Nat} (h6 : nw 0 ≤ 6) : ∀ k, thF nw set k < 64
  | 0 => by show (0 : Nat) < 64; decide
  | k + 1 => thR_lt (thF_lt h6 k) (nw 0) h6
theorem thR_bit {nw : Nat → Nat} {set i t : Nat} (x : Nat) : ∀ k, (thR nw set i k t).testBit x = true ↔ t.testBit x = true ∨ (x < k ∧ set.testBit i = true ∧ 0 < nw (1 + 6 * i + x))
  | 0 => by show t.testBit x = true ↔ _; simp
  | k + 1 => by
    have ih := thR_bit (nw := nw) (set := set) (i := i) (t := t) x k
    show (thR nw set i k t ||| (if set.testBit i = true ∧ 0 < nw (1 + 6 * i + k) then 2 ^ k else 0)).testBit x = true ↔ _
    by_cases h : set.testBit i = true ∧ 0 < nw (1 + 6 * i + k)
    · rw [if_pos h, bit_or2, Bool.or_eq_true, decide_eq_true_eq, ih]
      constructor
      · rintro ((a | ⟨a, b⟩) | rfl)
        · exact Or.inl a
        · exact Or.inr ⟨by omega, b⟩
        · exact Or.inr ⟨by omega, h⟩
      · rintro (a | ⟨a, b⟩)
        · exact Or.inl (Or.inl a)
        · by_cases q : x = k
          · exact Or.inr q
          · exact Or.inl (Or.inr ⟨by omega, b⟩)
    · rw [if_neg h, Nat.or_zero, ih]
      constructor
      · rintro (a | ⟨a, b⟩)
        · exact Or.inl a
        · exact Or.inr ⟨by omega, b⟩
      · rintro (a | ⟨a, b⟩)
        · exact Or.inl a
        · have : x ≠ k := fun q => h (q ▸ b)
          exact Or.inr ⟨by omega, b⟩
theorem thF_bit {nw : Nat → Nat} {set : Nat} (x : Nat) : ∀ k, (thF nw set k).testBit x = true ↔ ∃ i, i < k ∧ x < nw 0 ∧ set.testBit i = true ∧ 0 < nw (1 + 6 * i + x)
  | 0 => by show (0 : Nat).testBit x = true ↔ _; simp
  | k + 1 => by
    show (thR nw set k (nw 0) (thF nw set k)).testBit x = true ↔ _
    rw [thR_bit, thF_bit x k]
    constructor
    · rintro (⟨i, a, b⟩ | b)
      · exact ⟨i, by omega, b⟩
      · exact ⟨k, by omega, b⟩
    · rintro ⟨i, a, b⟩
      by_cases e : i = k
      · subst e; exact Or.inr b
      · exact Or.inl ⟨i, by omega, b⟩
theorem thF_sa (nw : Nat → Nat) (set : Nat) : saF (nw 0) (rvV nw 0) set (nw 0) = thF nw set (nw 0) := by
  apply Nat.eq_of_testBit_eq
  intro x
  rw [Bool.eq_iff_iff, saF_bit, thF_bit]
  constructor
  · rintro ⟨i, a, b, c, d⟩
    rw [rvV, if_pos ⟨a, c⟩, Nat.zero_add] at d
    exact ⟨i, a, c, b, by omega⟩
  · rintro ⟨i, a, b, c, d⟩
    refine ⟨i, a, c, b, ?_⟩
    rw [rvV, if_pos ⟨a, b⟩, Nat.zero_add]
    omega
/-! walks -/
theorem upd_idem {g : Nat → Int64} {j : Nat} {a b : Int64} : vp_updL (vp_updL g j a) j b = vp_updL g j b := by
  funext x
  by_cases e : x = j
  · subst e; rw [pk_uLs, pk_uLs]
  · rw [pk_uLn e, pk_uLn e, pk_uLn e]
def cwF (f g : Nat → Int64) (k : Nat) : Nat → Int64 := it (fun j f => vp_updL f j (g j)) k f
theorem cwF_at (f g : Nat → Int64) : ∀ k t, t < k → cwF f g k t = g t
  | 0, t, h => absurd h (Nat.not_lt_zero t)
  | k + 1, t, h => by
    show vp_updL (cwF f g k) k (g k) t = _
    by_cases e : t = k
    · subst e; rw [pk_uLs]
    · rw [pk_uLn e]; exact cwF_at f g k t (by omega)
theorem ltF_wk {n : Nat} {m : Nat → Nat → Nat} {s k : Nat} {f : Nat → Int64} (h : ∀ t, t < n → f t = wkV n m (dl s) k t) (t : Nat) : ltF n m f t n = wkV n m (dl s) (k + 1) t := by
  show it (fun i s => s + f i * lN (m i t)) n 0 = it (fun i z => z + wkV n m (dl s) k i * lN (m i t)) n 0
  exact it_cong n (fun i x hi => by rw [h i hi])
theorem wk_j {n : Nat} {m : Nat → Nat → Nat} {s k j : Nat} {f g : Nat → Int64} (h : ∀ t, t < n → f t = wkV n m (dl s) k t) (hg : ∀ t, t < j → g t = wkV n m (dl s) (k + 1) t) : ∀ t, t < j + 1 → vp_updL g j (ltF n m f j n) t = wkV n m (dl s) (k + 1) t := fun t ht => by
  by_cases e : t = j
  · subst e; rw [pk_uLs]; exact ltF_wk h t
  · rw [pk_uLn e]; exact hg t (by omega)
theorem ea_acc (f : Nat → Int64) (s : Int64) : ∀ k, it (fun j s => s + f j) k s = s + eaF f k
  | 0 => (Int64.add_zero s).symm
  | k + 1 => by
    show it (fun j s => s + f j) k s + f k = s + (eaF f k + f k)
    rw [ea_acc f s k, Int64.add_assoc]
theorem ea_s (f : Nat → Int64) (k : Nat) : eaF f (k + 1) = eaF f k + f k := rfl
theorem ea_add (f g : Nat → Int64) : ∀ k, eaF (fun j => f j + g j) k = eaF f k + eaF g k
  | 0 => (Int64.add_zero 0).symm
  | k + 1 => by rw [ea_s, ea_s, ea_s, ea_add f g k]; grind
theorem ea_mul (f : Nat → Int64) (c : Int64) : ∀ k, eaF (fun j => f j * c) k = eaF f k * c
  | 0 => by show (0 : Int64) = 0 * c; grind
  | k + 1 => by rw [ea_s, ea_s, ea_mul f c k]; grind
theorem ea_swap (f : Nat → Nat → Int64) (b : Nat) : ∀ a, eaF (fun i => eaF (f i) b) a = eaF (fun j => eaF (fun i => f i j) a) b
  | 0 => by
    have : ∀ b, eaF (fun _ => (0 : Int64)) b = 0 := fun b => by
      induction b with
      | zero => rfl
      | succ b ih => rw [ea_s, ih]; rfl
    show (0 : Int64) = eaF (fun j => (0 : Int64)) b
    rw [this]
  | a + 1 => by
    rw [ea_s, ea_swap f b a]
    rw [← ea_add]
    rfl
theorem ea_cong {f g : Nat → Int64} (k : Nat) (h : ∀ j, j < k → f j = g j) : eaF f k = eaF g k := by
  unfold eaF
  exact it_cong k (fun i x hi => by rw [h i hi])
theorem wk_lin {n : Nat} (m : Nat → Nat → Nat) : ∀ k j, j < n → eaF (fun i => wkV n m (dl i) k j) n = wkV n m (fun _ => 1) k j
  | 0, j, hj => by
    show eaF (fun i => if j = i then (1 : Int64) else 0) n = 1
    have h : ∀ k, eaF (fun i => if j = i then (1 : Int64) else 0) k = if j < k then 1 else 0 := fun k => by
      induction k with
      | zero => rfl
      | succ k ih =>
        rw [ea_s, ih]
        by_cases e : j = k
        · subst e; rw [if_neg (Nat.lt_irrefl _), if_pos rfl, if_pos (by omega)]; rfl
        · by_cases e2 : j < k
          · rw [if_pos e2, if_neg e, if_pos (by omega)]; rfl
          · rw [if_neg e2, if_neg e, if_neg (by omega)]; rfl
    rw [h, if_pos hj]
  | k + 1, j, _ => by
    show eaF (fun i => eaF (fun t => wkV n m (dl i) k t * lN (m t j)) n) n = eaF (fun t => wkV n m (fun _ => 1) k t * lN (m t j)) n
    rw [ea_swap (fun i t => wkV n m (dl i) k t * lN (m t j)) n n]
    refine ea_cong n (fun t ht => ?_)
    rw [ea_mul (fun i => wkV n m (dl i) k t), wk_lin m k t ht]
def bkF (n : Nat) (m : Nat → Nat → Nat) (k i : Nat) : Int64 := it (fun i s => it (fun j s => s + wkV n m (dl i) k j) n s) i 0
theorem bk_eq {n : Nat} {m : Nat → Nat → Nat} {k : Nat} (hn : n ≤ 6) (hk : 1 ≤ k) (hm : ∀ i t, n ≤ t → m i t = 0) : bkF n m k n = blV n m k := by
  have h1 : ∀ i, bkF n m k i = eaF (fun i => eaF (wkV n m (dl i) k) n) i := fun i => by
    induction i with
    | zero => rfl
    | succ i ih =>
      show it (fun j s => s + wkV n m (dl i) k j) n (bkF n m k i) = _
      rw [ea_acc, ih, ea_s]
  rw [h1, ea_swap (fun i j => wkV n m (dl i) k j) n n]
  have h2 : ∀ d, eaF (wkV n m (fun _ => 1) k) (n + d) = eaF (wkV n m (fun _ => 1) k) n := fun d => by
    induction d with
    | zero => rfl
    | succ d ih =>
      rw [← Nat.add_assoc, ea_s, ih]
      obtain ⟨k', rfl⟩ : ∃ k', k = k' + 1 := ⟨k - 1, by omega⟩
      have : wkV n m (fun _ => 1) (k' + 1) (n + d) = 0 := by
        show eaF (fun i => wkV n m (fun _ => 1) k' i * lN (m i (n + d))) n = 0
        have hz : ∀ c, eaF (fun i => wkV n m (fun _ => 1) k' i * lN (m i (n + d))) c = 0 := fun c => by
          induction c with
          | zero => rfl
          | succ c ih =>
            rw [ea_s, ih, hm c (n + d) (by omega)]
            show (0 : Int64) + _ * 0 = 0
            grind
        exact hz n
      rw [this, Int64.add_zero]
  unfold blV
  rw [show 6 = n + (6 - n) by omega, h2]
  exact ea_cong n (fun j hj => wk_lin m k j hj)
theorem rv_out (nw : Nat → Nat) (b i t : Nat) (h : nw b ≤ t) : rvV nw b i t = 0 := by rw [rvV, if_neg (by omega)]
/-! points of least periods -/
def lsF (lp : Nat → Int64) (P : Int64) (p k : Nat) : Int64 := it (fun d s => s - (if p % (d + 1) = 0 then lp (d + 1) else 0)) k P
theorem lsF_pl (lp : Nat → Int64) (P : Int64) (p : Nat) : ∀ k, lsF lp P p k = P - plF lp p k
  | 0 => by show P = P - 0; grind
  | k + 1 => by
    show lsF lp P p k - (if p % (k + 1) = 0 then lp (k + 1) else 0) = P - (if p % (k + 1) = 0 then plF lp p k + lp (k + 1) else plF lp p k)
    rw [lsF_pl lp P p k]
    split <;> grind
theorem ob_s {n : Nat} {m : Nat → Nat → Nat} {i : Nat} {le : Nat → Int64} (h : ∀ d, 1 ≤ d → d ≤ i → le d = lpT n m i d) : ∀ d, 1 ≤ d → d ≤ i + 1 → vp_updL le (i + 1) (lsF le (cpV n m (i + 1) n) (i + 1) i) d = lpT n m (i + 1) d := fun d h1 h2 => by
  rw [lpT_s, lsF_pl]
  by_cases e : d = i + 1
  · subst e
    rw [pk_uLs, pk_uLs, plF_cong i (fun c hc _ => h (c + 1) (by omega) (by omega))]
  · rw [pk_uLn e, pk_uLn e]; exact h d h1 (by omega)
theorem hd_X6_trim : yX6_trim.cls = RX6 ∧ yX6_trim.cls ≠ "java/lang/invoke/MethodHandle" ∧ yX6_trim.cls ≠ "java/lang/invoke/VarHandle" ∧ (parseMethodDescriptor yX6_trim.desc).map (fun d => d.parameters.length) = some 0 := by decide +kernel
theorem hd_X6_lowest : yX6_lowest.cls = RX6 ∧ yX6_lowest.cls ≠ "java/lang/invoke/MethodHandle" ∧ yX6_lowest.cls ≠ "java/lang/invoke/VarHandle" ∧ (parseMethodDescriptor yX6_lowest.desc).map (fun d => d.parameters.length) = some 1 := by decide +kernel
theorem hd_X6_componentsTo : yX6_componentsTo.cls = RX6 ∧ yX6_componentsTo.cls ≠ "java/lang/invoke/MethodHandle" ∧ yX6_componentsTo.cls ≠ "java/lang/invoke/VarHandle" ∧ (parseMethodDescriptor yX6_componentsTo.desc).map (fun d => d.parameters.length) = some 1 := by decide +kernel
theorem hd_X6_componentCount : yX6_componentCount.cls = RX6 ∧ yX6_componentCount.cls ≠ "java/lang/invoke/MethodHandle" ∧ yX6_componentCount.cls ≠ "java/lang/invoke/VarHandle" ∧ (parseMethodDescriptor yX6_componentCount.desc).map (fun d => d.parameters.length) = some 0 := by decide +kernel
theorem hd_X6_componentOf : yX6_componentOf.cls = RX6 ∧ yX6_componentOf.cls ≠ "java/lang/invoke/MethodHandle" ∧ yX6_componentOf.cls ≠ "java/lang/invoke/VarHandle" ∧ (parseMethodDescriptor yX6_componentOf.desc).map (fun d => d.parameters.length) = some 1 := by decide +kernel
theorem hd_X6_isIrreducible : yX6_isIrreducible.cls = RX6 ∧ yX6_isIrreducible.cls ≠ "java/lang/invoke/MethodHandle" ∧ yX6_isIrreducible.cls ≠ "java/lang/invoke/VarHandle" ∧ (parseMethodDescriptor yX6_isIrreducible.desc).map (fun d => d.parameters.length) = some 0 := by decide +kernel
theorem hd_X6_periodOf : yX6_periodOf.cls = RX6 ∧ yX6_periodOf.cls ≠ "java/lang/invoke/MethodHandle" ∧ yX6_periodOf.cls ≠ "java/lang/invoke/VarHandle" ∧ (parseMethodDescriptor yX6_periodOf.desc).map (fun d => d.parameters.length) = some 1 := by decide +kernel
theorem hd_X6_walks : yX6_walks.cls = RX6 ∧ yX6_walks.cls ≠ "java/lang/invoke/MethodHandle" ∧ yX6_walks.cls ≠ "java/lang/invoke/VarHandle" ∧ (parseMethodDescriptor yX6_walks.desc).map (fun d => d.parameters.length) = some 2 := by decide +kernel
theorem hd_X6_paths : yX6_paths.cls = RX6 ∧ yX6_paths.cls ≠ "java/lang/invoke/MethodHandle" ∧ yX6_paths.cls ≠ "java/lang/invoke/VarHandle" ∧ (parseMethodDescriptor yX6_paths.desc).map (fun d => d.parameters.length) = some 3 := by decide +kernel
theorem hd_X6_blocks : yX6_blocks.cls = RX6 ∧ yX6_blocks.cls ≠ "java/lang/invoke/MethodHandle" ∧ yX6_blocks.cls ≠ "java/lang/invoke/VarHandle" ∧ (parseMethodDescriptor yX6_blocks.desc).map (fun d => d.parameters.length) = some 1 := by decide +kernel
theorem hd_X6_periodic : yX6_periodic.cls = RX6 ∧ yX6_periodic.cls ≠ "java/lang/invoke/MethodHandle" ∧ yX6_periodic.cls ≠ "java/lang/invoke/VarHandle" ∧ (parseMethodDescriptor yX6_periodic.desc).map (fun d => d.parameters.length) = some 1 := by decide +kernel
theorem hd_X6_periodicPoints : yX6_periodicPoints.cls = RX6 ∧ yX6_periodicPoints.cls ≠ "java/lang/invoke/MethodHandle" ∧ yX6_periodicPoints.cls ≠ "java/lang/invoke/VarHandle" ∧ (parseMethodDescriptor yX6_periodicPoints.desc).map (fun d => d.parameters.length) = some 1 := by decide +kernel
theorem hd_X6_orbits : yX6_orbits.cls = RX6 ∧ yX6_orbits.cls ≠ "java/lang/invoke/MethodHandle" ∧ yX6_orbits.cls ≠ "java/lang/invoke/VarHandle" ∧ (parseMethodDescriptor yX6_orbits.desc).map (fun d => d.parameters.length) = some 1 := by decide +kernel
