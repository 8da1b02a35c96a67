/-! words of the fifth part: canonical values, free of what lay in the scratch rows -/
def iwI (p lo hi : Int32) : Bool := decide (lo ≤ p) && decide (p ≤ hi)
theorem iwI_lo {p lo hi : Int32} (h : p < lo) : iwI p lo hi = false := by
  simp only [iwI, Bool.and_eq_false_iff, decide_eq_false_iff_not]
  exact Or.inl (Int32.not_le.mpr h)
theorem iwI_hi {p lo hi : Int32} (h : hi < p) : iwI p lo hi = false := by
  simp only [iwI, Bool.and_eq_false_iff, decide_eq_false_iff_not]
  exact Or.inr (Int32.not_le.mpr h)
theorem iwI_tt {p lo hi : Int32} (h1 : ¬ p < lo) (h2 : ¬ hi < p) : iwI p lo hi = true := by
  simp only [iwI, Bool.and_eq_true, decide_eq_true_eq]
  exact ⟨Int32.not_lt.mp h1, Int32.not_lt.mp h2⟩
theorem iwI_of {p : Int32} {lo hi : Nat} (hh : hi < 2147483648) (hl : lo < 2147483648) (h : iwI p (nI lo) (nI hi) = true) : ∃ k, lo ≤ k ∧ k ≤ hi ∧ p = nI k := by
  simp only [iwI, Bool.and_eq_true, decide_eq_true_eq] at h
  have h0 : ¬ p < 0 := fun q => by
    have h1 := Int32.le_trans (nI_pos' hl) h.1
    exact absurd q (Int32.not_lt.mpr h1)
  obtain ⟨j, hj, rfl⟩ := nI_of h0
  exact ⟨j, (nI_leI hl hj).mp h.1, (nI_leI hj hh).mp h.2, rfl⟩
theorem iwI_N {k lo hi : Nat} (hk : k < 2147483648) (hh : hi < 2147483648) (hl : lo < 2147483648) : iwI (nI k) (nI lo) (nI hi) = true ↔ (lo ≤ k ∧ k ≤ hi) := by
  simp only [iwI, Bool.and_eq_true, decide_eq_true_eq, nI_leI hl hk, nI_leI hk hh]
theorem toN_nI {k : Nat} (h : k < 2147483648) : (nI k).toNatClampNeg = k := nI_clamp h
/-! walks -/
def dl (s : Nat) : Nat → Int64 := fun t => if t = s then 1 else 0
def wkV (n : Nat) (m : Nat → Nat → Nat) (f : Nat → Int64) : Nat → Nat → Int64
  | 0, t => f t
  | k + 1, t => it (fun i s => s + wkV n m f k i * lN (m i t)) n 0
theorem bgF_at (s : Nat) (f : Nat → Int64) : ∀ k t, t < k → bgF s k f t = dl s t
  | 0, _, h => absurd h (Nat.not_lt_zero _)
  | k + 1, t, h => by
    show vp_updL (bgF s k f) k (if k = s then 1 else 0) t = _
    by_cases e : t = k
    · subst e; rw [pk_uLs]; rfl
    · rw [pk_uLn e]; exact bgF_at s f k t (by omega)
theorem beF_at (f : Nat → Int64) : ∀ k t, t < k → beF k f t = 1
  | 0, _, h => absurd h (Nat.not_lt_zero _)
  | k + 1, t, h => by
    show vp_updL (beF k f) k 1 t = _
    by_cases e : t = k
    · subst e; rw [pk_uLs]
    · rw [pk_uLn e]; exact beF_at f k t (by omega)
theorem it_cong {σ : Type} {f g : Nat → σ → σ} {s : σ} : ∀ n, (∀ i x, i < n → f i x = g i x) → it f n s = it g n s
  | 0, _ => rfl
  | n + 1, h => by
    show f n (it f n s) = g n (it g n s)
    rw [it_cong n (fun i x hi => h i x (by omega)), h n _ (by omega)]
theorem upR_at {h : Nat → Int64} : ∀ (k : Nat) (g : Nat → Int64) (t : Nat), t < k → it (fun t g => vp_updL g t (h t)) k g t = h t
  | 0, _, _, h0 => absurd h0 (Nat.not_lt_zero _)
  | k + 1, g, t, h0 => by
    show vp_updL (it (fun t g => vp_updL g t (h t)) k g) k (h k) t = _
    by_cases e : t = k
    · subst e; rw [pk_uLs]
    · rw [pk_uLn e]; exact upR_at k g t (by omega)
theorem goS_at {n : Nat} (m : Nat → Nat → Nat) (hn : n ≤ 6) (f g : Nat → Int64) : ∀ k t, t < 6 → (goS n m k (f, g)).1 t = wkV n m f k t
  | 0, _, _ => rfl
  | k + 1, t, ht => by
    show va_cpy (it (fun t0 g0 => vp_updL g0 t0 (ltF n m (goS n m k (f, g)).1 t0 n)) 6 (goS n m k (f, g)).2) (goS n m k (f, g)).1 0 0 6 t = _
    rw [pk_cpy_in (by omega) (by omega), show 0 + (t - 0) = t by omega, upR_at 6 _ t ht]
    show it (fun i s => s + (goS n m k (f, g)).1 i * lN (m i t)) n 0 = it (fun i s => s + wkV n m f k i * lN (m i t)) n 0
    exact it_cong n (fun i x hi => by rw [goS_at m hn f g k i (by omega)])
theorem wkV_cong {n : Nat} {m : Nat → Nat → Nat} {f g : Nat → Int64} (hn : n ≤ 6) (h : ∀ t, t < 6 → f t = g t) : ∀ k t, t < 6 → wkV n m f k t = wkV n m g k t
  | 0, t, ht => h t ht
  | k + 1, t, _ => it_cong n (fun i x hi => by rw [wkV_cong hn h k i (by omega)])
def ptV (n : Nat) (m : Nat → Nat → Nat) (i j len : Nat) : Int64 := wkV n m (dl i) len j
theorem pt_eq {n : Nat} (m : Nat → Nat → Nat) (hn : n ≤ 6) (f g : Nat → Int64) {i j len : Nat} (hj : j < 6) : (goS n m len (bgF i 6 f, g)).1 j = ptV n m i j len := by
  rw [goS_at m hn _ _ len j hj]
  exact wkV_cong hn (fun t ht => bgF_at i f 6 t ht) len j hj
def cpV (n : Nat) (m : Nat → Nat → Nat) (len k : Nat) : Int64 := it (fun i s => s + ptV n m i i len) k 0
def blV (n : Nat) (m : Nat → Nat → Nat) (len : Nat) : Int64 := eaF (wkV n m (fun _ => 1) len) 6
theorem eaF_cong {f g : Nat → Int64} : ∀ k, (∀ t, t < k → f t = g t) → eaF f k = eaF g k
  | 0, _ => rfl
  | k + 1, h => by
    show eaF f k + f k = eaF g k + g k
    rw [eaF_cong k (fun t ht => h t (by omega)), h k (by omega)]
theorem bl_eq {n : Nat} (m : Nat → Nat → Nat) (hn : n ≤ 6) (f g : Nat → Int64) (len : Nat) : eaF (goS n m len (beF 6 f, g)).1 6 = blV n m len := by
  refine eaF_cong 6 (fun t ht => ?_)
  rw [goS_at m hn _ _ len t ht]
  exact wkV_cong hn (fun t ht => beF_at f 6 t ht) len t ht
/-- points of lesser periods, and of least periods, as the rows of numbers lay them -/
def plF (lp : Nat → Int64) (p k : Nat) : Int64 := it (fun i s => if p % (i + 1) = 0 then s + lp (i + 1) else s) k 0
def orF (n : Nat) (m : Nat → Nat → Nat) (len k : Nat) (lp : Nat → Int64) : Nat → Int64 := it (fun i lp => if len % (i + 1) = 0 then vp_updL lp (i + 1) (cpV n m (i + 1) n - plF lp (i + 1) i) else lp) k lp
/-! minors of a matrix's own entries -/
def enT (d t : Int64) (m : Nat → Nat → Nat) : Nat → Int64 := fun x => tkR d t m (x / 6) (x % 6)
theorem enT_at (d t : Int64) (m : Nat → Nat → Nat) {i j : Nat} (hj : j < 6) : enT d t m (i * 6 + j) = tkR d t m i j := by
  unfold enT
  rw [show (i * 6 + j) / 6 = i by omega, show (i * 6 + j) % 6 = j by omega]
theorem tkI_at (d t : Int64) (m : Nat → Nat → Nat) (i : Nat) (e : Nat → Int64) : ∀ k x, it (fun j e => vp_updL e (i * 6 + j) (tkR d t m i j)) k e x = if i * 6 ≤ x ∧ x < i * 6 + k then tkR d t m i (x - i * 6) else e x
  | 0, x => by rw [if_neg (by omega)]; rfl
  | k + 1, x => by
    show vp_updL (it (fun j e => vp_updL e (i * 6 + j) (tkR d t m i j)) k e) (i * 6 + k) (tkR d t m i k) x = _
    by_cases h : x = i * 6 + k
    · subst h; rw [pk_uLs, if_pos (by omega), show i * 6 + k - i * 6 = k by omega]
    · rw [pk_uLn h, tkI_at d t m i e k x]
      by_cases h2 : i * 6 ≤ x ∧ x < i * 6 + k
      · rw [if_pos h2, if_pos (by omega)]
      · rw [if_neg h2, if_neg (by omega)]
theorem tkF_at (d t : Int64) (m : Nat → Nat → Nat) (e : Nat → Int64) : ∀ k i j, i < k → j < 6 → tkF d t m k e (i * 6 + j) = tkR d t m i j
  | 0, _, _, h, _ => absurd h (Nat.not_lt_zero _)
  | k + 1, i, j, h, hj => by
    show it (fun j e => vp_updL e (k * 6 + j) (tkR d t m k j)) 6 (tkF d t m k e) (i * 6 + j) = _
    rw [tkI_at]
    by_cases e0 : i = k
    · subst e0; rw [if_pos (by omega), show i * 6 + j - i * 6 = j by omega]
    · rw [if_neg (by omega)]; exact tkF_at d t m e k i j (by omega) hj
theorem exF_congE {e e' g : Nat → Int64} {row set : Nat} : ∀ n, (∀ i, i < n → set.testBit i = true → e (row * 6 + i) = e' (row * 6 + i)) → exF e g row set n = exF e' g row set n
  | 0, _ => rfl
  | n + 1, h => by
    rw [exF, exF, exF_congE n (fun i hi => h i (by omega))]
    split
    · rename_i hb
      rw [h n (by omega) hb]
    · rfl
theorem dtK_cong {e e' : Nat → Int64} {R : Nat → Nat} {n : Nat} (hn : n ≤ 6) (he : ∀ i j, i < n → j < n → e (i * 6 + j) = e' (i * 6 + j)) : ∀ k set, set < 2 ^ n → (∀ x, x < k → R x < n) → dtK e R k set = dtK e' R k set
  | 0, _, _, _ => rfl
  | k + 1, set, hs, hR => by
    show exF e (dtK e R k) (R k) set 6 = exF e' (dtK e' R k) (R k) set 6
    rw [exF_congE (e' := e') 6 (fun i _ hb => he _ _ (hR k (by omega)) (bit_ltn hs hb))]
    exact exF_cong 6 (fun i _ hb => dtK_cong hn he k _ (Nat.lt_of_le_of_lt (Nat.sub_le _ _) hs) (fun x hx => hR x (by omega)))
theorem mnV_cong {e e' : Nat → Int64} {n rows cols set : Nat} (hn : n ≤ 6) (he : ∀ i j, i < n → j < n → e (i * 6 + j) = e' (i * 6 + j)) (hr : rows < 2 ^ n) (hs : set < 2 ^ n) : mnV e rows cols set = mnV e' rows cols set := by
  unfold mnV
  split
  · rename_i h
    exact dtK_cong hn he _ _ hs (fun x hx => rw6_lt hn hr (by omega))
  · rfl
theorem tkE {n : Nat} (d t : Int64) (m : Nat → Nat → Nat) (hn : n ≤ 6) (e : Nat → Int64) (i j : Nat) (hi : i < n) (hj : j < n) : tkF d t m 6 e (i * 6 + j) = enT d t m (i * 6 + j) := by
  rw [tkF_at d t m e 6 i j (by omega) (by omega), enT_at d t m (by omega)]
theorem psF_cong {e e' : Nat → Int64} {n k : Nat} (hn : n ≤ 6) (he : ∀ i j, i < n → j < n → e (i * 6 + j) = e' (i * 6 + j)) : psF e k (2 ^ n) = psF e' k (2 ^ n) := by
  unfold psF
  exact it_cong _ (fun i x hi => by rw [mnV_cong hn he hi hi])
theorem cdF_cong {e e' : Nat → Int64} {n k : Nat} (hn : n ≤ 6) (he : ∀ i j, i < n → j < n → e (i * 6 + j) = e' (i * 6 + j)) : cdF e n k (2 ^ n) = cdF e' n k (2 ^ n) := by
  unfold cdF
  refine it_cong _ (fun i x hi => ?_)
  split
  · exact dwF_cong _ (fun s hs => mnV_cong hn he hi hs)
  · rfl
theorem lePb_cong {e e' : Nat → Int64} {n : Nat} (hn : n ≤ 6) (he : ∀ i j, i < n → j < n → e (i * 6 + j) = e' (i * 6 + j)) : lePb n e = lePb n e' := by
  have hp := Nat.two_pow_pos n
  unfold lePb
  have : ∀ j, j < n → mnV e (2 ^ n - 1) (2 ^ n - 1) (2 ^ (j + 1) - 1) = mnV e' (2 ^ n - 1) (2 ^ n - 1) (2 ^ (j + 1) - 1) := fun j hj => mnV_cong hn he (by omega) (by
    have : 2 ^ (j + 1) ≤ 2 ^ n := Nat.pow_le_pow_right (by decide) hj
    have := Nat.two_pow_pos (j + 1)
    omega)
  refine decide_eq_decide.mpr ⟨fun h j hj => ?_, fun h j hj => ?_⟩
  · rw [← this j hj]; exact h j hj
  · rw [this j hj]; exact h j hj
def zcV (n : Nat) (m : Nat → Nat → Nat) (k : Nat) : Int64 := if k % 2 = 0 then psF (enT 0 1 m) k (2 ^ n) else -psF (enT 0 1 m) k (2 ^ n)
def deV (n : Nat) (m : Nat → Nat → Nat) : Int64 := mnV (enT 1 (-1) m) (2 ^ n - 1) (2 ^ n - 1) (2 ^ n - 1)
def rbV (n : Nat) (m : Nat → Nat → Nat) (x : Nat) : Bool := lePb n (enT (lN x) (-10) m)
def cdV (n : Nat) (m : Nat → Nat → Nat) (k : Nat) : Nat := cdF (enT 1 (-1) m) n k (2 ^ n)
def gfV (n : Nat) (m : Nat → Nat → Nat) (k : Nat) : Nat := if cdV n m (k - 1) = 0 then 0 else cdV n m k / cdV n m (k - 1)
/-! sizes of minors -/
theorem i64_add {x y : Int64} {b c : Int} (hx : x.toInt.natAbs ≤ b) (hy : y.toInt.natAbs ≤ c) (h : b + c < 4611686018427387904) : ((x + y).toInt.natAbs : Int) ≤ b + c := by
  rw [Int64.toInt_add, Int.bmod_eq_of_le] <;> omega
theorem i64_sub {x y : Int64} {b c : Int} (hx : x.toInt.natAbs ≤ b) (hy : y.toInt.natAbs ≤ c) (h : b + c < 4611686018427387904) : ((x - y).toInt.natAbs : Int) ≤ b + c := by
  rw [Int64.toInt_sub, Int.bmod_eq_of_le] <;> omega
theorem i64_mul {x y : Int64} {b c : Nat} (hx : x.toInt.natAbs ≤ b) (hy : y.toInt.natAbs ≤ c) (h : b * c < 4611686018427387904) : (x * y).toInt.natAbs ≤ b * c := by
  have h1 : (x.toInt * y.toInt).natAbs ≤ b * c := by rw [Int.natAbs_mul]; exact Nat.mul_le_mul hx hy
  rw [Int64.toInt_mul, Int.bmod_eq_of_le] <;> omega
theorem exF_le {e g : Nat → Int64} {row set b c : Nat} (he : ∀ i, i < 6 → (e (row * 6 + i)).toInt.natAbs ≤ b) (hg : ∀ s, s < 64 → (g s).toInt.natAbs ≤ c) (hs : set < 64) (hbc : 6 * (b * c) < 4611686018427387904) : ∀ i, i ≤ 6 → (exF e g row set i).toInt.natAbs ≤ i * (b * c)
  | 0, _ => by show (0 : Int64).toInt.natAbs ≤ _; rw [show (0 : Int64).toInt.natAbs = 0 by decide]; exact Nat.zero_le _
  | i + 1, h => by
    have ih := exF_le he hg hs hbc i (by omega)
    have hle : (i + 1) * (b * c) ≤ 6 * (b * c) := Nat.mul_le_mul_right _ h
    have hs1 : (i + 1) * (b * c) = b * c + i * (b * c) := by rw [Nat.succ_mul, Nat.add_comm]
    rw [exF]
    split
    · have h1 := i64_mul (he i (by omega)) (hg (set - 2 ^ i) (Nat.lt_of_le_of_lt (Nat.sub_le _ _) hs)) (by omega)
      have h2 := i64_sub (b := ((b * c : Nat) : Int)) (c := ((i * (b * c) : Nat) : Int)) (x := e (row * 6 + i) * g (set - 2 ^ i)) (y := exF e g row set i) (by omega) (by omega) (by omega)
      omega
    · omega
theorem dtK_le {e : Nat → Int64} {R : Nat → Nat} (he : ∀ r i, r < 6 → i < 6 → (e (r * 6 + i)).toInt.natAbs ≤ 10) : ∀ k set, k ≤ 6 → set < 64 → (∀ x, x < k → R x < 6) → (dtK e R k set).toInt.natAbs ≤ 60 ^ k
  | 0, _, _, _, _ => by show (1 : Int64).toInt.natAbs ≤ _; decide
  | k + 1, set, hk, hs, hR => by
    have hp : (60 : Nat) ^ k ≤ 60 ^ 5 := Nat.pow_le_pow_right (by decide) (by omega)
    have hn : (60 : Nat) ^ 5 = 777600000 := by decide
    show (exF e (dtK e R k) (R k) set 6).toInt.natAbs ≤ _
    have h1 := exF_le (e := e) (g := dtK e R k) (row := R k) (set := set) (b := 10) (c := 60 ^ k) (fun i hi => he _ i (hR k (by omega)) hi) (fun s hs => dtK_le he k s (by omega) hs (fun x hx => hR x (by omega))) hs (by omega) 6 (Nat.le_refl 6)
    rw [Nat.pow_succ]
    omega
theorem mnB_of {n : Nat} {e : Nat → Int64} (hn : n ≤ 6) (he : ∀ r i, r < 6 → i < 6 → (e (r * 6 + i)).toInt.natAbs ≤ 10) : mnB n e := by
  intro rows set hr hs
  have h64 : set < 64 := Nat.lt_of_lt_of_le hs (p2_le hn)
  unfold absL mnV
  split
  · rename_i h
    have h1 := dtK_le (R := rw6 rows) he (pc set) set (pc_le set h64) h64 (fun x hx => Nat.lt_of_lt_of_le (rw6_lt hn hr (by omega)) hn)
    have hp : (60 : Nat) ^ (pc set) ≤ 60 ^ 6 := Nat.pow_le_pow_right (by decide) (pc_le set h64)
    have hn : (60 : Nat) ^ 6 = 46656000000 := by decide
    omega
  · decide
theorem tkR_le {m : Nat → Nat → Nat} (hm : ∀ i j, m i j ≤ 9) (i j : Nat) : (tkR 1 (-1) m i j).toInt.natAbs ≤ 10 := by
  have h : ∀ v, v < 10 → (((1 : Int64) + (-1) * lN v).toInt.natAbs ≤ 10 ∧ ((0 : Int64) + (-1) * lN v).toInt.natAbs ≤ 10) := by decide +kernel
  have := h (m i j) (by have := hm i j; omega)
  unfold tkR
  split
  · exact this.1
  · exact this.2
theorem mnB_en {n : Nat} {m : Nat → Nat → Nat} (hn : n ≤ 6) (hm : ∀ i j, m i j ≤ 9) : mnB n (enT 1 (-1) m) := mnB_of hn (fun r i _ hi => by rw [enT_at _ _ _ hi]; exact tkR_le hm r i)
theorem mnB_tk {n : Nat} {m : Nat → Nat → Nat} (hn : n ≤ 6) (hm : ∀ i j, m i j ≤ 9) (e : Nat → Int64) : mnB n (tkF 1 (-1) m 6 e) := by
  intro rows set hr hs
  rw [mnV_cong hn (tkE 1 (-1) m hn e) hr hs]
  exact mnB_en hn hm rows set hr hs
