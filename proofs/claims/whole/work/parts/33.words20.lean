/-! words of the twentieth part: the reference's minors -/
theorem on_f : ∀ t, t < 64 → 0 < t → pc (t &&& (t - 1)) + 1 = pc t ∧ t &&& (t - 1) < t := by decide +kernel
/-- what is left to pass when the rows up to t are looked at -/
def rlF (rows k t : Nat) : Nat := k - pc (rows % 2 ^ t)
def raB (rows k t : Nat) : Bool := if k < pc rows ∧ t ≤ rw6 rows k then (if rows.testBit t = true ∧ rlF rows k t = 0 then decide (rw6 rows k = t) else decide (t + 1 ≤ rw6 rows k) && decide (rlF rows k (t + 1) = if rows.testBit t = true then rlF rows k t - 1 else rlF rows k t)) else true
theorem ra_b : ∀ rows, rows < 64 → ∀ k, k < 6 → ∀ t, t < 6 → raB rows k t = true := by decide +kernel
theorem ra_1 (rows : Nat) (h1 : rows < 64) (k : Nat) (h2 : k < 6) (t : Nat) (h3 : t < 6) (h4 : k < pc rows) (h5 : t ≤ rw6 rows k) (h6 : rows.testBit t = false) : t + 1 ≤ rw6 rows k ∧ rlF rows k (t + 1) = rlF rows k t := by
  have h := ra_b rows h1 k h2 t h3
  unfold raB at h
  rw [if_pos ⟨h4, h5⟩, if_neg (by rw [h6]; simp), Bool.and_eq_true, decide_eq_true_eq, decide_eq_true_eq, if_neg (by rw [h6]; decide)] at h
  exact h
theorem ra_2 (rows : Nat) (h1 : rows < 64) (k : Nat) (h2 : k < 6) (t : Nat) (h3 : t < 6) (h4 : k < pc rows) (h5 : t ≤ rw6 rows k) (h6 : rows.testBit t = true) (h7 : 0 < rlF rows k t) : t + 1 ≤ rw6 rows k ∧ rlF rows k (t + 1) = rlF rows k t - 1 := by
  have h := ra_b rows h1 k h2 t h3
  unfold raB at h
  rw [if_pos ⟨h4, h5⟩, if_neg (fun q => by have := q.2; omega), Bool.and_eq_true, decide_eq_true_eq, decide_eq_true_eq, if_pos h6] at h
  exact h
theorem ra_3 (rows : Nat) (h1 : rows < 64) (k : Nat) (h2 : k < 6) (t : Nat) (h3 : t < 6) (h4 : k < pc rows) (h5 : t ≤ rw6 rows k) (h6 : rows.testBit t = true) (h7 : rlF rows k t = 0) : rw6 rows k = t := by
  have h := ra_b rows h1 k h2 t h3
  unfold raB at h
  rw [if_pos ⟨h4, h5⟩, if_pos ⟨h6, h7⟩, decide_eq_true_eq] at h
  exact h
theorem rl_0 (rows k : Nat) : rlF rows k 0 = k := by
  unfold rlF
  rw [Nat.pow_zero, Nat.mod_one]
  have : pc 0 = 0 := by decide
  rw [this, Nat.sub_zero]
theorem rw_6 {rows k : Nat} (hr : rows < 64) (hk : k < pc rows) : rw6 rows k < 6 := rw6_lt (n := 6) (Nat.le_refl 6) hr hk
/-- the entries that the reference lays down -/
def lyR (nw : Nat → Nat) (b x t i j : Nat) : Int64 := (if i = j then lN x else lN 0) - lN t * lN (nw (b + (1 + 6 * i + j)))
def lyI (nw : Nat → Nat) (b x t i k : Nat) (e : Nat → Int64) : Nat → Int64 := it (fun j e => vp_updL e (6 * i + j) (lyR nw b x t i j)) k e
def lyF (nw : Nat → Nat) (b x t k : Nat) (e : Nat → Int64) : Nat → Int64 := it (fun i e => lyI nw b x t i 6 e) k e
theorem lyI_at (nw : Nat → Nat) (b x t i : Nat) (e : Nat → Int64) : ∀ k z, lyI nw b x t i k e z = if 6 * i ≤ z ∧ z < 6 * i + k then lyR nw b x t i (z - 6 * i) else e z
  | 0, z => by rw [if_neg (by omega)]; rfl
  | k + 1, z => by
    show vp_updL (lyI nw b x t i k e) (6 * i + k) (lyR nw b x t i k) z = _
    by_cases h : z = 6 * i + k
    · subst h; rw [pk_uLs, if_pos (by omega), show 6 * i + k - 6 * i = k by omega]
    · rw [pk_uLn h, lyI_at nw b x t i e k z]
      by_cases h2 : 6 * i ≤ z ∧ z < 6 * i + k
      · rw [if_pos h2, if_pos (by omega)]
      · rw [if_neg h2, if_neg (by omega)]
theorem lyF_at (nw : Nat → Nat) (b x t : Nat) (e : Nat → Int64) : ∀ k i j, i < k → j < 6 → lyF nw b x t k e (i * 6 + j) = lyR nw b x t i j
  | 0, i, _, h, _ => absurd h (Nat.not_lt_zero i)
  | k + 1, i, j, h, hj => by
    show lyI nw b x t k 6 (lyF nw b x t k e) (i * 6 + j) = _
    rw [lyI_at]
    by_cases e0 : i = k
    · subst e0; rw [if_pos (by omega), show i * 6 + j - 6 * i = j by omega]
    · rw [if_neg (by omega)]; exact lyF_at nw b x t e k i j (by omega) hj
theorem ly_en {nw : Nat → Nat} {b : Nat} (h6 : nw b ≤ 6) (x t : Nat) {t' : Int64} (ht : -lN t = t') (e : Nat → Int64) (i j : Nat) (hi : i < nw b) (hj : j < nw b) : lyF nw b x t 6 e (i * 6 + j) = enT (lN x) t' (rvV nw b) (i * 6 + j) := by
  rw [lyF_at nw b x t e 6 i j (by omega) (by omega), enT_at _ _ _ (by omega)]
  unfold lyR tkR rvV
  have e1 : (if i < nw b ∧ j < nw b then nw (b + (1 + 6 * i + j)) else 0) = nw (b + (1 + 6 * i + j)) := if_pos ⟨hi, hj⟩
  rw [e1, ← ht, show lN 0 = (0 : Int64) from rfl]
  by_cases h : i = j
  · simp only [if_pos h]; grind
  · simp only [if_neg h]; grind
theorem neg_1 : -lN 1 = (-1 : Int64) := by decide
theorem neg_10 : -lN 10 = (-10 : Int64) := by decide
/-- a set without some of its bits, as Java spells it -/
theorem clr_I : ∀ s, s < 64 → ∀ c, c < 64 → nI s &&& (nI c ^^^ (-1)) = nI (s - (s &&& c)) := by decide +kernel
theorem clr_b : ∀ s, s < 64 → ∀ j, j < 6 → s.testBit j = true → nI s &&& (nI (2 ^ j) ^^^ (-1)) = nI (s - 2 ^ j) := by decide +kernel
def upB (s j : Nat) : Nat := pc (s >>> j)
theorem upB_t : ∀ s, s < 64 → ∀ j, j < 6 → s.testBit j = true → upB s j = upB s (j + 1) + 1 := by decide +kernel
theorem upB_f : ∀ s, s < 64 → ∀ j, j < 6 → s.testBit j = false → upB s j = upB s (j + 1) := by decide +kernel
theorem upB_6 : ∀ s, s < 64 → upB s 6 = 0 := by decide +kernel
theorem upB_0 (s : Nat) : upB s 0 = pc s := rfl
theorem upB_le : ∀ s, s < 64 → ∀ j, j < 7 → upB s j ≤ 6 := by decide +kernel
/-- the sum so far: the sign of the expansion is that of the bits still to come -/
def msF (e g : Nat → Int64) (row s j : Nat) : Int64 := if upB s j % 2 = 0 then exF e g row s j else -exF e g row s j
theorem ms_f {e g : Nat → Int64} {row s j : Nat} (hs : s < 64) (hj : j < 6) (hb : s.testBit j = false) : msF e g row s (j + 1) = msF e g row s j := by
  have e1 : exF e g row s (j + 1) = exF e g row s j := by rw [exF, if_neg (by rw [hb]; decide)]
  unfold msF
  rw [upB_f s hs j hj hb, e1]
theorem ms_0 {e g : Nat → Int64} {row s j : Nat} (hs : s < 64) (hj : j < 6) (hb : s.testBit j = true) (h : upB s (j + 1) % 2 = 0) : msF e g row s (j + 1) = msF e g row s j + e (row * 6 + j) * g (s - 2 ^ j) := by
  have e1 : exF e g row s (j + 1) = e (row * 6 + j) * g (s - 2 ^ j) - exF e g row s j := by rw [exF, if_pos hb]
  unfold msF
  rw [upB_t s hs j hj hb, e1, if_pos h, if_neg (by omega)]
  grind
theorem ms_1 {e g : Nat → Int64} {row s j : Nat} (hs : s < 64) (hj : j < 6) (hb : s.testBit j = true) (h : upB s (j + 1) % 2 ≠ 0) : msF e g row s (j + 1) = msF e g row s j + -(e (row * 6 + j) * g (s - 2 ^ j)) := by
  have e1 : exF e g row s (j + 1) = e (row * 6 + j) * g (s - 2 ^ j) - exF e g row s j := by rw [exF, if_pos hb]
  unfold msF
  rw [upB_t s hs j hj hb, e1, if_neg h, if_pos (by omega)]
  grind
theorem ms_6 {e g : Nat → Int64} {row s : Nat} (hs : s < 64) : msF e g row s 6 = exF e g row s 6 := by
  unfold msF
  rw [upB_6 s hs, if_pos rfl]
theorem ms_z {e g : Nat → Int64} {row s : Nat} : msF e g row s 0 = 0 := by
  unfold msF exF
  split <;> rfl
def mnQ (e : Nat → Int64) (rows cols k : Nat) (g : Nat → Int64) : Prop := ∀ s, s < k → s &&& cols = s → pc s ≤ pc rows → g s = dtK e (rw6 rows) (pc s) s
theorem mnQ_1 (e : Nat → Int64) (rows cols : Nat) (g : Nat → Int64) : mnQ e rows cols 1 (vp_updL g 0 1) := by
  intro s hs _ _
  have : s = 0 := by omega
  subst this
  have h0 : pc 0 = 0 := by decide
  rw [pk_uLs, h0]
  rfl
theorem mnQ_n {e : Nat → Int64} {rows cols k : Nat} {g : Nat → Int64} (h : mnQ e rows cols k g) (hn : ¬ (k &&& cols = k ∧ pc k ≤ pc rows)) : mnQ e rows cols (k + 1) g := by
  intro s hs h1 h2
  by_cases q : s = k
  · subst q; exact absurd ⟨h1, h2⟩ hn
  · exact h s (by omega) h1 h2
theorem mnQ_s {e : Nat → Int64} {rows cols k : Nat} {g : Nat → Int64} (hk0 : 0 < k) (hk : k < 64) (hc : cols < 64) (h : mnQ e rows cols k g) (h1 : k &&& cols = k) (h2 : pc k ≤ pc rows) : mnQ e rows cols (k + 1) (vp_updL g k (msF e g (rw6 rows (pc k - 1)) k 6)) := by
  intro s hs q1 q2
  by_cases q : s = k
  · subst q
    have hp : pc s ≠ 0 := fun z => by have := (pc_0 s hk).mp z; omega
    obtain ⟨d, hd⟩ : ∃ d, pc s = d + 1 := ⟨pc s - 1, by omega⟩
    rw [pk_uLs, ms_6 hk, hd, show d + 1 - 1 = d by omega]
    show _ = exF e (dtK e (rw6 rows) d) (rw6 rows d) s 6
    refine exF_cong 6 (fun i hi hb => ?_)
    have hpc := sb_facts s hk i hi hb
    have hlt : s - 2 ^ i < s := Nat.sub_lt (by omega) (Nat.two_pow_pos i)
    rw [h _ hlt (sb_and s hk cols hc h1 i hi hb) (by omega), show pc (s - 2 ^ i) = d by omega]
  · rw [pk_uLn q]; exact h s (by omega) q1 q2
theorem and_cl {s c : Nat} (h : s - (s &&& c) = 0) : s &&& c = s := by
  have : s &&& c ≤ s := Nat.and_le_left
  omega
theorem and_cn {s c : Nat} (h : s - (s &&& c) ≠ 0) : ¬ s &&& c = s := fun q => by rw [q, Nat.sub_self] at h; exact h rfl
def mnW2 (e : Nat → Int64) (rows cols : Nat) : Int64 := dtK e (rw6 rows) (pc cols) cols
theorem mnQ_e {e : Nat → Int64} {rows cols : Nat} {g : Nat → Int64} (hc : cols < 64) (hrc : pc cols ≤ pc rows) (h : mnQ e rows cols 64 g) : g cols = mnW2 e rows cols := h cols hc (Nat.and_self cols) hrc
theorem mnW2_cong {e e' : Nat → Int64} {n rows cols : Nat} (hn : n ≤ 6) (he : ∀ i j, i < n → j < n → e (i * 6 + j) = e' (i * 6 + j)) (hr : rows < 2 ^ n) (hs : cols < 2 ^ n) (hrc : pc cols ≤ pc rows) : mnW2 e rows cols = mnW2 e' rows cols :=
  dtK_cong hn he _ _ hs (fun x hx => rw6_lt hn hr (by omega))
theorem mnV_W2 {e : Nat → Int64} {n rows cols : Nat} (hn : n ≤ 6) (hs : cols < 2 ^ n) (hrc : pc cols ≤ pc rows) : mnV e rows (2 ^ n - 1) cols = mnW2 e rows cols := by
  unfold mnV
  have h : cols &&& (2 ^ n - 1) = cols := by rw [Nat.and_two_pow_sub_one_eq_mod, Nat.mod_eq_of_lt hs]
  rw [if_pos ⟨h, hrc⟩]
  rfl
theorem mnV_W1 {e : Nat → Int64} {s : Nat} : mnV e s s s = mnW2 e s s := by
  unfold mnV
  rw [if_pos ⟨Nat.and_self s, Nat.le_refl _⟩]
  rfl
/-! coefficients: the reference takes -A, the class A with a sign -/
theorem ex_n {e g : Nat → Int64} {row s : Nat} {e' : Nat → Int64} (he : ∀ i, i < 6 → s.testBit i = true → e' (row * 6 + i) = -e (row * 6 + i)) {g' : Nat → Int64} {c : Int64} (hg : ∀ i, i < 6 → s.testBit i = true → g' (s - 2 ^ i) = c * g (s - 2 ^ i)) : ∀ k, k ≤ 6 → exF e' g' row s k = (-c) * exF e g row s k
  | 0, _ => by show (0 : Int64) = (-c) * 0; grind
  | k + 1, hk => by
    rw [exF, exF, ex_n he hg k (by omega)]
    split
    · next h => rw [he k (by omega) h, hg k (by omega) h]; grind
    · rfl
def sg (k : Nat) : Int64 := if k % 2 = 0 then 1 else -1
theorem sg_s (k : Nat) : sg (k + 1) = -sg k := by
  unfold sg
  by_cases h : k % 2 = 0
  · rw [if_pos h, if_neg (by omega)]
  · rw [if_neg h, if_pos (by omega)]; rfl
theorem dt_n {e e' : Nat → Int64} {R : Nat → Nat} {n : Nat} (hn : n ≤ 6) (he : ∀ i j, i < n → j < n → e' (i * 6 + j) = -e (i * 6 + j)) : ∀ k s, s < 2 ^ n → (∀ x, x < k → R x < n) → dtK e' R k s = sg k * dtK e R k s
  | 0, s, _, _ => by show (1 : Int64) = sg 0 * 1; decide
  | k + 1, s, hs, hR => by
    show exF e' (dtK e' R k) (R k) s 6 = sg (k + 1) * exF e (dtK e R k) (R k) s 6
    rw [ex_n (c := sg k) (fun i _ hb => he _ _ (hR k (by omega)) (bit_ltn hs hb)) (fun i _ hb => dt_n hn he k _ (Nat.lt_of_le_of_lt (Nat.sub_le _ _) hs) (fun x hx => hR x (by omega))) 6 (Nat.le_refl 6), sg_s]
def cfF (e : Nat → Int64) (k i : Nat) : Int64 := it (fun s acc => acc + (if pc (s + 1) = k then mnW2 e (s + 1) (s + 1) else 0)) i (if k = 0 then 1 else 0)
theorem cf_s (e : Nat → Int64) (k i : Nat) : cfF e k (i + 1) = cfF e k i + (if pc (i + 1) = k then mnW2 e (i + 1) (i + 1) else 0) := rfl
theorem cf_0 {e : Nat → Int64} : ∀ i, i < 64 → cfF e 0 i = 1
  | 0, _ => rfl
  | i + 1, h => by
    have : pc (i + 1) ≠ 0 := fun z => by have := (pc_0 (i + 1) h).mp z; omega
    rw [cf_s, if_neg this, cf_0 i (by omega)]; rfl
theorem cf_ps {e e' : Nat → Int64} {n k : Nat} (hn : n ≤ 6) (he : ∀ i j, i < n → j < n → e' (i * 6 + j) = -e (i * 6 + j)) : ∀ i, i + 1 ≤ 2 ^ n → cfF e' k i = sg k * psF e k (i + 1)
  | 0, _ => by
    have h0 : pc 0 = 0 := by decide
    show (if k = 0 then (1 : Int64) else 0) = sg k * (if pc 0 = k then 0 + mnV e 0 0 0 else 0)
    rw [h0]
    by_cases h : k = 0
    · subst h
      rw [if_pos rfl, if_pos rfl, mnV_W1]
      show (1 : Int64) = sg 0 * (0 + 1)
      decide
    · rw [if_neg h, if_neg (fun q => h q.symm)]; grind
  | i + 1, h => by
    rw [cf_s, cf_ps hn he i (by omega)]
    show _ = sg k * (if pc (i + 1) = k then psF e k (i + 1) + mnV e (i + 1) (i + 1) (i + 1) else psF e k (i + 1))
    split
    · next hp =>
      rw [mnV_W1]
      have : mnW2 e' (i + 1) (i + 1) = sg k * mnW2 e (i + 1) (i + 1) := by
        unfold mnW2
        rw [hp]
        exact dt_n hn he k _ (by omega) (fun x hx => rw6_lt hn (by omega) (by omega))
      rw [this]; grind
    · grind
theorem cf_eq {nw : Nat → Nat} {b k : Nat} (h6 : nw b ≤ 6) (e : Nat → Int64) : cfF (lyF nw b 0 1 6 e) k (2 ^ nw b - 1) = zcV (nw b) (rvV nw b) k := by
  have hp := Nat.two_pow_pos (nw b)
  rw [cf_ps (e := enT 0 1 (rvV nw b)) h6 (fun i j hi hj => ?_) _ (by omega), show 2 ^ nw b - 1 + 1 = 2 ^ nw b by omega]
  · unfold zcV sg
    split <;> grind
  · rw [ly_en h6 0 1 neg_1 e i j hi hj, enT_at _ _ _ (by omega), enT_at _ _ _ (by omega)]
    unfold tkR
    rw [show lN 0 = (0 : Int64) from rfl]
    split <;> grind
theorem cf_k0 {nw : Nat → Nat} {b : Nat} (h6 : nw b ≤ 6) (e : Nat → Int64) {i : Nat} (hi : i < 2 ^ nw b - 1) : cfF (lyF nw b 0 1 6 e) 0 i = zcV (nw b) (rvV nw b) 0 := by
  have := p2_le h6
  rw [← cf_eq h6 e, cf_0 i (by omega), cf_0 _ (by omega)]
/-! the first k rows and columns -/
theorem ld_f : ∀ n, n < 7 → ∀ k, k ≤ n → pc (2 ^ k - 1) = k ∧ ∀ x, x < k → rw6 (2 ^ k - 1) x = x ∧ rw6 (2 ^ n - 1) x = x := by decide +kernel
theorem dt_R {e : Nat → Int64} {R R' : Nat → Nat} : ∀ k s, (∀ x, x < k → R x = R' x) → dtK e R k s = dtK e R' k s
  | 0, _, _ => rfl
  | k + 1, s, h => by
    show exF e (dtK e R k) (R k) s 6 = exF e (dtK e R' k) (R' k) s 6
    rw [h k (by omega)]
    exact exF_cong 6 (fun i _ _ => dt_R k _ (fun x hx => h x (by omega)))
theorem mnV_ld {e : Nat → Int64} {n k : Nat} (hn : n ≤ 6) (hk : k ≤ n) : mnV e (2 ^ n - 1) (2 ^ n - 1) (2 ^ k - 1) = mnW2 e (2 ^ k - 1) (2 ^ k - 1) := by
  have hp : 2 ^ k ≤ 2 ^ n := Nat.pow_le_pow_right (by decide) hk
  have hp0 := Nat.two_pow_pos k
  obtain ⟨a1, a2⟩ := ld_f n (by omega) k hk
  obtain ⟨b1, _⟩ := ld_f n (by omega) n (Nat.le_refl n)
  rw [mnV_W2 hn (by omega) (by rw [a1, b1]; exact hk)]
  unfold mnW2
  rw [a1]
  exact dt_R k _ (fun x hx => by rw [(a2 x hx).1, (a2 x hx).2])
def ilF (e : Nat → Int64) (k : Nat) : Bool := it (fun k b => b && decide (0 < mnW2 e (2 ^ (k + 1) - 1) (2 ^ (k + 1) - 1))) k true
theorem il_s (e : Nat → Int64) (k : Nat) : ilF e (k + 1) = (ilF e k && decide (0 < mnW2 e (2 ^ (k + 1) - 1) (2 ^ (k + 1) - 1))) := rfl
theorem il_iff (e : Nat → Int64) : ∀ k, ilF e k = true ↔ ∀ j, j < k → 0 < mnW2 e (2 ^ (j + 1) - 1) (2 ^ (j + 1) - 1)
  | 0 => ⟨fun _ j h => absurd h (Nat.not_lt_zero j), fun _ => rfl⟩
  | k + 1 => by
    rw [il_s, Bool.and_eq_true, decide_eq_true_eq, il_iff e k]
    constructor
    · rintro ⟨h1, h2⟩ j hj
      by_cases q : j = k
      · subst q; exact h2
      · exact h1 j (by omega)
    · exact fun h => ⟨fun j hj => h j (by omega), h k (by omega)⟩
theorem il_eq {nw : Nat → Nat} (h6 : nw 0 ≤ 6) (x : Nat) (e : Nat → Int64) : ilF (lyF nw 0 x 10 6 e) (nw 0) = rbV (nw 0) (rvV nw 0) x := by
  rw [Bool.eq_iff_iff, il_iff]
  unfold rbV lePb
  rw [decide_eq_true_eq]
  have key : ∀ j, j < nw 0 → mnW2 (lyF nw 0 x 10 6 e) (2 ^ (j + 1) - 1) (2 ^ (j + 1) - 1) = mnV (enT (lN x) (-10) (rvV nw 0)) (2 ^ nw 0 - 1) (2 ^ nw 0 - 1) (2 ^ (j + 1) - 1) := fun j hj => by
    have hp : 2 ^ (j + 1) ≤ 2 ^ nw 0 := Nat.pow_le_pow_right (by decide) hj
    have hp0 := Nat.two_pow_pos (j + 1)
    rw [mnV_ld h6 hj]
    exact mnW2_cong h6 (fun i j hi hj => ly_en h6 x 10 neg_10 e i j hi hj) (by omega) (by omega) (Nat.le_refl _)
  exact ⟨fun h j hj => by rw [← key j hj]; exact h j hj, fun h j hj => by rw [key j hj]; exact h j hj⟩
theorem il_t {e : Nat → Int64} {k : Nat} (h1 : ilF e k = true) (h2 : 0 < mnW2 e (2 ^ (k + 1) - 1) (2 ^ (k + 1) - 1)) : ilF e (k + 1) = true := by rw [il_s, h1, decide_eq_true h2]; rfl
theorem il_f1 {e : Nat → Int64} {k : Nat} (h1 : ilF e k = false) : ilF e (k + 1) = false := by rw [il_s, h1]; rfl
theorem il_f2 {e : Nat → Int64} {k : Nat} (h2 : ¬ 0 < mnW2 e (2 ^ (k + 1) - 1) (2 ^ (k + 1) - 1)) : ilF e (k + 1) = false := by rw [il_s, decide_eq_false h2]; exact Bool.and_false _
theorem de_eq {nw : Nat → Nat} (h6 : nw 0 ≤ 6) (e : Nat → Int64) : mnW2 (lyF nw 0 1 1 6 e) (2 ^ nw 0 - 1) (2 ^ nw 0 - 1) = deV (nw 0) (rvV nw 0) := by
  have hp0 := Nat.two_pow_pos (nw 0)
  unfold deV
  rw [mnV_W1]
  exact mnW2_cong h6 (fun i j hi hj => ly_en h6 1 1 neg_1 e i j hi hj) (by omega) (by omega) (Nat.le_refl _)
/-! greatest divisors of minors -/
def dvI (e : Nat → Int64) (k rows i d : Nat) : Nat := it (fun s d => if pc (s + 1) = k then Nat.gcd d (absL (mnW2 e rows (s + 1))) else d) i d
def dvF (e : Nat → Int64) (k n i : Nat) : Nat := it (fun r d => if pc (r + 1) = k then dvI e k (r + 1) (2 ^ n - 1) d else d) i (if k = 0 then 1 else 0)
theorem dvI_s (e : Nat → Int64) (k rows i d : Nat) : dvI e k rows (i + 1) d = if pc (i + 1) = k then Nat.gcd (dvI e k rows i d) (absL (mnW2 e rows (i + 1))) else dvI e k rows i d := rfl
theorem dvF_s (e : Nat → Int64) (k n i : Nat) : dvF e k n (i + 1) = if pc (i + 1) = k then dvI e k (i + 1) (2 ^ n - 1) (dvF e k n i) else dvF e k n i := rfl
theorem dv_0 {e : Nat → Int64} {n : Nat} : ∀ i, i < 64 → dvF e 0 n i = 1
  | 0, _ => rfl
  | i + 1, h => by
    have : pc (i + 1) ≠ 0 := fun z => by have := (pc_0 (i + 1) h).mp z; omega
    rw [dvF_s, if_neg this, dv_0 i (by omega)]
theorem dvI_dw {e e' : Nat → Int64} {n k rows : Nat} (hn : n ≤ 6) (hk : 1 ≤ k) (hr : rows < 2 ^ n) (hp : pc rows = k) (he : ∀ i j, i < n → j < n → e (i * 6 + j) = e' (i * 6 + j)) (d : Nat) : ∀ i, i + 1 ≤ 2 ^ n → dvI e k rows i d = dwF (mnV e' rows (2 ^ n - 1)) k (i + 1) d
  | 0, _ => by
    have h0 : pc 0 = 0 := by decide
    rw [dwF_s, if_neg (by omega), dwF_z]; rfl
  | i + 1, h => by
    rw [dvI_s, dwF_s, dvI_dw hn hk hr hp he d i (by omega)]
    split
    · next hq => rw [mnV_W2 hn (by omega) (by omega), mnW2_cong hn he hr (by omega) (by omega)]
    · rfl
theorem dv_cd {e e' : Nat → Int64} {n k : Nat} (hn : n ≤ 6) (hk : 1 ≤ k) (he : ∀ i j, i < n → j < n → e (i * 6 + j) = e' (i * 6 + j)) : ∀ i, i + 1 ≤ 2 ^ n → dvF e k n i = cdF e' n k (i + 1)
  | 0, _ => by
    have h0 : pc 0 = 0 := by decide
    show (if k = 0 then 1 else 0) = (if pc 0 = k then dwF (mnV e' 0 (2 ^ n - 1)) k (2 ^ n) 0 else 0)
    rw [if_neg (by omega), if_neg (by omega)]
  | i + 1, h => by
    rw [dvF_s, dv_cd hn hk he i (by omega)]
    show _ = (if pc (i + 1) = k then dwF (mnV e' (i + 1) (2 ^ n - 1)) k (2 ^ n) (cdF e' n k (i + 1)) else cdF e' n k (i + 1))
    split
    · next hq =>
      have hp := Nat.two_pow_pos n
      rw [dvI_dw hn hk (by omega) hq he _ _ (by omega), show 2 ^ n - 1 + 1 = 2 ^ n by omega]
    · rfl
theorem cd_0 {n : Nat} (m : Nat → Nat → Nat) (hn : n ≤ 6) : cdV n m 0 = 1 := by
  have h0 : pc 0 = 0 := by decide
  have hp := Nat.two_pow_pos n
  have h1 : cdF (enT 1 (-1) m) n 0 1 = 1 := by
    show (if pc 0 = 0 then dwF (mnV (enT 1 (-1) m) 0 (2 ^ n - 1)) 0 (2 ^ n) 0 else 0) = 1
    rw [if_pos h0]
    have h2 : ∀ d, dwF (mnV (enT 1 (-1) m) 0 (2 ^ n - 1)) 0 (1 + d) 0 = 1 := fun d => by
      induction d with
      | zero =>
        rw [dwF_s, if_pos h0, dwF_z, mnV_W2 hn hp (Nat.le_refl _)]
        show Nat.gcd 0 (absL 1) = 1
        decide
      | succ d ih =>
        rw [← Nat.add_assoc, dwF_s, ih]
        split
        · exact Nat.gcd_one_left _
        · rfl
    have h3 := h2 (2 ^ n - 1)
    rw [show 1 + (2 ^ n - 1) = 2 ^ n by omega] at h3
    exact h3
  unfold cdV
  have := cdF_one h1 (2 ^ n - 1)
  rw [show 1 + (2 ^ n - 1) = 2 ^ n by omega] at this
  exact this
theorem dv_eq {nw : Nat → Nat} {b k : Nat} (h6 : nw b ≤ 6) (e : Nat → Int64) : dvF (lyF nw b 1 1 6 e) k (nw b) (2 ^ nw b - 1) = cdV (nw b) (rvV nw b) k := by
  have hp := Nat.two_pow_pos (nw b)
  have hp6 := p2_le h6
  by_cases h : k = 0
  · subst h; rw [dv_0 _ (by omega), cd_0 _ h6]
  · rw [dv_cd h6 (by omega) (fun i j hi hj => ly_en h6 1 1 neg_1 e i j hi hj) _ (by omega), show 2 ^ nw b - 1 + 1 = 2 ^ nw b by omega]
    rfl
theorem dv_k0 {nw : Nat → Nat} {b : Nat} (h6 : nw b ≤ 6) (e : Nat → Int64) {i : Nat} (hi : i < 2 ^ nw b - 1) : dvF (lyF nw b 1 1 6 e) 0 (nw b) i = cdV (nw b) (rvV nw b) 0 := by
  have := p2_le h6
  rw [cd_0 _ h6, dv_0 i (by omega)]
theorem rv_9 {nw : Nat → Nat} (hN : ∀ k, nw k ≤ 9) (b i j : Nat) : rvV nw b i j ≤ 9 := by
  unfold rvV
  split
  · exact hN _
  · omega
theorem W2_lt {nw : Nat → Nat} {b : Nat} (h6 : nw b ≤ 6) (hN : ∀ k, nw k ≤ 9) (e : Nat → Int64) {rows cols : Nat} (hr : rows < 2 ^ nw b) (hc : cols < 2 ^ nw b) (hrc : pc cols ≤ pc rows) : absL (mnW2 (lyF nw b 1 1 6 e) rows cols) < 4611686018427387904 := by
  rw [mnW2_cong h6 (fun i j hi hj => ly_en h6 1 1 neg_1 e i j hi hj) hr hc hrc, ← mnV_W2 h6 hc hrc]
  exact mnB_en h6 (rv_9 hN b) rows cols hr hc
theorem gcd_lt {a b : Nat} (ha : a < 4611686018427387904) (hb : b < 4611686018427387904) : Nat.gcd a b < 4611686018427387904 := by
  rcases Nat.eq_zero_or_pos a with q | q
  · rw [q, Nat.gcd_zero_left]; exact hb
  · exact Nat.lt_of_le_of_lt (Nat.le_of_dvd q (Nat.gcd_dvd_left _ _)) ha
theorem dvI_lt {nw : Nat → Nat} {b k : Nat} (h6 : nw b ≤ 6) (hN : ∀ k, nw k ≤ 9) (e : Nat → Int64) {rows d : Nat} (hr : rows < 2 ^ nw b) (hp : pc rows = k) (hd : d < 4611686018427387904) : ∀ i, i + 1 ≤ 2 ^ nw b → dvI (lyF nw b 1 1 6 e) k rows i d < 4611686018427387904
  | 0, _ => hd
  | i + 1, h => by
    rw [dvI_s]
    split
    · next hq => exact gcd_lt (dvI_lt h6 hN e hr hp hd i (by omega)) (W2_lt h6 hN e hr (by omega) (by omega))
    · exact dvI_lt h6 hN e hr hp hd i (by omega)
theorem dvF_lt {nw : Nat → Nat} {b k : Nat} (h6 : nw b ≤ 6) (hN : ∀ k, nw k ≤ 9) (e : Nat → Int64) : ∀ i, i + 1 ≤ 2 ^ nw b → dvF (lyF nw b 1 1 6 e) k (nw b) i < 4611686018427387904
  | 0, _ => by show (if k = 0 then 1 else 0) < _; split <;> decide
  | i + 1, h => by
    rw [dvF_s]
    have hp := Nat.two_pow_pos (nw b)
    split
    · next hq => exact dvI_lt h6 hN e (by omega) hq (dvF_lt h6 hN e i (by omega)) _ (by omega)
    · exact dvF_lt h6 hN e i (by omega)
/-- where all minors of an order are 0, so are those of the next -/
theorem dwF_z0 {f : Nat → Int64} {k : Nat} : ∀ i d, dwF f k i d = 0 → d = 0 ∧ ∀ s, s < i → pc s = k → absL (f s) = 0
  | 0, d, h => ⟨h, fun s hs => absurd hs (Nat.not_lt_zero s)⟩
  | i + 1, d, h => by
    rw [dwF_s] at h
    by_cases q : pc i = k
    · rw [if_pos q] at h
      obtain ⟨h1, h2⟩ := Nat.gcd_eq_zero_iff.mp h
      obtain ⟨h3, h4⟩ := dwF_z0 i d h1
      refine ⟨h3, fun s hs hp => ?_⟩
      by_cases e : s = i
      · rw [e]; exact h2
      · exact h4 s (by omega) hp
    · rw [if_neg q] at h
      obtain ⟨h3, h4⟩ := dwF_z0 i d h
      refine ⟨h3, fun s hs hp => ?_⟩
      by_cases e : s = i
      · subst e; exact absurd hp q
      · exact h4 s (by omega) hp
theorem cdF_z0 {e : Nat → Int64} {n k : Nat} : ∀ i, cdF e n k i = 0 → ∀ rows, rows < i → pc rows = k → ∀ s, s < 2 ^ n → pc s = k → absL (mnV e rows (2 ^ n - 1) s) = 0
  | 0, _, rows, h => absurd h (Nat.not_lt_zero rows)
  | i + 1, h, rows, hr => by
    intro hp
    have h : (if pc i = k then dwF (mnV e i (2 ^ n - 1)) k (2 ^ n) (cdF e n k i) else cdF e n k i) = 0 := h
    by_cases q : pc i = k
    · rw [if_pos q] at h
      obtain ⟨h1, h2⟩ := dwF_z0 _ _ h
      by_cases e : rows = i
      · rw [e]; exact h2
      · exact cdF_z0 i h1 rows (by omega) hp
    · rw [if_neg q] at h
      by_cases e : rows = i
      · subst e; exact absurd hp q
      · exact cdF_z0 i h rows (by omega) hp
theorem absL_0 {x : Int64} (h : absL x = 0) : x = 0 := by
  unfold absL at h
  apply Int64.toInt_inj.mp
  rw [Int.natAbs_eq_zero.mp h]; rfl
theorem ex_z {e g : Nat → Int64} {row s : Nat} : ∀ k, (∀ i, i < k → s.testBit i = true → g (s - 2 ^ i) = 0) → exF e g row s k = 0
  | 0, _ => rfl
  | k + 1, h => by
    rw [exF, ex_z k (fun i hi => h i (by omega))]
    split
    · next hb => rw [h k (by omega) hb]; grind
    · rfl
/-- the set without its highest row -/
theorem tp_f : ∀ rows, rows < 64 → ∀ k, k < 6 → pc rows = k + 1 → rows - 2 ^ (rw6 rows k) < rows ∧ pc (rows - 2 ^ (rw6 rows k)) = k ∧ ∀ x, x < k → rw6 (rows - 2 ^ (rw6 rows k)) x = rw6 rows x := by decide +kernel
theorem dwF_all0 {f : Nat → Int64} {k : Nat} : ∀ i, (∀ s, s < i → pc s = k → f s = 0) → dwF f k i 0 = 0
  | 0, _ => rfl
  | i + 1, h => by
    rw [dwF_s, dwF_all0 i (fun s hs => h s (by omega))]
    split
    · next q =>
      rw [h i (by omega) q]
      decide
    · rfl
theorem cdF_all0 {e : Nat → Int64} {n k : Nat} : ∀ i, (∀ rows, rows < i → pc rows = k → ∀ s, s < 2 ^ n → pc s = k → mnV e rows (2 ^ n - 1) s = 0) → cdF e n k i = 0
  | 0, _ => rfl
  | i + 1, h => by
    show (if pc i = k then dwF (mnV e i (2 ^ n - 1)) k (2 ^ n) (cdF e n k i) else cdF e n k i) = 0
    rw [cdF_all0 i (fun r hr => h r (by omega))]
    split
    · next q => exact dwF_all0 _ (h i (by omega) q)
    · rfl
theorem cd_z {n : Nat} {m : Nat → Nat → Nat} (hn : n ≤ 6) {k : Nat} (hk : k < 6) (h : cdV n m k = 0) : cdV n m (k + 1) = 0 := by
  unfold cdV at *
  have hz := cdF_z0 _ h
  refine cdF_all0 _ (fun rows hr hp s hs hps => ?_)
  have h64 : rows < 64 := Nat.lt_of_lt_of_le hr (p2_le hn)
  have s64 : s < 64 := Nat.lt_of_lt_of_le hs (p2_le hn)
  obtain ⟨t1, t2, t3⟩ := tp_f rows h64 k hk hp
  rw [mnV_W2 hn hs (by omega)]
  unfold mnW2
  rw [hps]
  show exF _ (dtK _ (rw6 rows) k) (rw6 rows k) s 6 = 0
  refine ex_z 6 (fun i hi hb => ?_)
  have hpc := sb_facts s s64 i hi hb
  have hsl : s - 2 ^ i < 2 ^ n := Nat.lt_of_le_of_lt (Nat.sub_le _ _) hs
  have h0 := absL_0 (hz _ (by omega) t2 (s - 2 ^ i) hsl (by omega))
  rw [mnV_W2 hn hsl (by omega)] at h0
  unfold mnW2 at h0
  rw [show pc (s - 2 ^ i) = k by omega] at h0
  rw [← dt_R k _ t3]
  exact h0
theorem gf_eq {n : Nat} {m : Nat → Nat → Nat} (hn : n ≤ 6) {k : Nat} (h1 : 1 ≤ k) (hk : k ≤ n) (h9 : ∀ i j, m i j ≤ 9) : (cdV n m k = 0 → gfV n m k = 0) ∧ (cdV n m k ≠ 0 → cdV n m (k - 1) ≠ 0 ∧ gfV n m k = cdV n m k / cdV n m (k - 1)) := by
  have hz : cdV n m (k - 1) = 0 → cdV n m k = 0 := fun h => by
    have := cd_z hn (show k - 1 < 6 by omega) h
    rw [show k - 1 + 1 = k by omega] at this
    exact this
  unfold gfV
  constructor
  · intro h
    rw [h]
    split
    · rfl
    · exact Nat.zero_div _
  · intro h
    have : cdV n m (k - 1) ≠ 0 := fun q => h (hz q)
    exact ⟨this, by rw [if_neg this]⟩
theorem cdV_lt {n : Nat} {m : Nat → Nat → Nat} (hn : n ≤ 6) (h9 : ∀ i j, m i j ≤ 9) (k : Nat) : cdV n m k < 4611686018427387904 := cdF_lt k (mnB_en hn h9) _ (Nat.le_refl _)
theorem hd_X6_lays : yX6_lays.cls = RX6 ∧ yX6_lays.cls ≠ "java/lang/invoke/MethodHandle" ∧ yX6_lays.cls ≠ "java/lang/invoke/VarHandle" ∧ (parseMethodDescriptor yX6_lays.desc).map (fun d => d.parameters.length) = some 3 := by decide +kernel
theorem hd_X6_minor : yX6_minor.cls = RX6 ∧ yX6_minor.cls ≠ "java/lang/invoke/MethodHandle" ∧ yX6_minor.cls ≠ "java/lang/invoke/VarHandle" ∧ (parseMethodDescriptor yX6_minor.desc).map (fun d => d.parameters.length) = some 2 := by decide +kernel
theorem hd_X6_coefficientOf : yX6_coefficientOf.cls = RX6 ∧ yX6_coefficientOf.cls ≠ "java/lang/invoke/MethodHandle" ∧ yX6_coefficientOf.cls ≠ "java/lang/invoke/VarHandle" ∧ (parseMethodDescriptor yX6_coefficientOf.desc).map (fun d => d.parameters.length) = some 2 := by decide +kernel
theorem hd_X6_coefficient : yX6_coefficient.cls = RX6 ∧ yX6_coefficient.cls ≠ "java/lang/invoke/MethodHandle" ∧ yX6_coefficient.cls ≠ "java/lang/invoke/VarHandle" ∧ (parseMethodDescriptor yX6_coefficient.desc).map (fun d => d.parameters.length) = some 1 := by decide +kernel
theorem hd_X6_isLess : yX6_isLess.cls = RX6 ∧ yX6_isLess.cls ≠ "java/lang/invoke/MethodHandle" ∧ yX6_isLess.cls ≠ "java/lang/invoke/VarHandle" ∧ (parseMethodDescriptor yX6_isLess.desc).map (fun d => d.parameters.length) = some 1 := by decide +kernel
theorem hd_X6_determinant : yX6_determinant.cls = RX6 ∧ yX6_determinant.cls ≠ "java/lang/invoke/MethodHandle" ∧ yX6_determinant.cls ≠ "java/lang/invoke/VarHandle" ∧ (parseMethodDescriptor yX6_determinant.desc).map (fun d => d.parameters.length) = some 0 := by decide +kernel
theorem hd_X6_divisor : yX6_divisor.cls = RX6 ∧ yX6_divisor.cls ≠ "java/lang/invoke/MethodHandle" ∧ yX6_divisor.cls ≠ "java/lang/invoke/VarHandle" ∧ (parseMethodDescriptor yX6_divisor.desc).map (fun d => d.parameters.length) = some 2 := by decide +kernel
theorem hd_X6_factorOf : yX6_factorOf.cls = RX6 ∧ yX6_factorOf.cls ≠ "java/lang/invoke/MethodHandle" ∧ yX6_factorOf.cls ≠ "java/lang/invoke/VarHandle" ∧ (parseMethodDescriptor yX6_factorOf.desc).map (fun d => d.parameters.length) = some 2 := by decide +kernel
theorem hd_X6_factor : yX6_factor.cls = RX6 ∧ yX6_factor.cls ≠ "java/lang/invoke/MethodHandle" ∧ yX6_factor.cls ≠ "java/lang/invoke/VarHandle" ∧ (parseMethodDescriptor yX6_factor.desc).map (fun d => d.parameters.length) = some 1 := by decide +kernel
