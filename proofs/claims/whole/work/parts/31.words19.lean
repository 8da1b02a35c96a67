/-! words of the nineteenth part: the reference's splits and merges -/
def ps : Bool → Nat → Nat → Nat
  | false, r, c => 1 + 6 * r + c
  | true, r, c => 1 + 6 * c + r
theorem ps_in {b : Bool} {r c : Nat} (hr : r < 6) (hc : c < 6) : 1 ≤ ps b r c ∧ ps b r c < 37 := by
  cases b <;> simp only [ps] <;> omega
theorem ps_inj {b : Bool} {r c r' c' : Nat} (hr : r < 6) (hc : c < 6) (hr' : r' < 6) (hc' : c' < 6) : ps b r c = ps b r' c' ↔ r = r' ∧ c = c' := by
  cases b <;> simp only [ps] <;> omega
theorem ps_tr {b : Bool} (nw : Nat → Nat) (i j : Nat) : nw (0 + (1 + 6 * i + j)) = if b = true then nw (ps b j i) else nw (ps b i j) := by
  cases b
  · rw [if_neg (by decide), Nat.zero_add]; rfl
  · rw [if_pos rfl, Nat.zero_add]; rfl
theorem rv_tM (b : Bool) (nw : Nat → Nat) (r c : Nat) : tM b (rvV nw 0) r c = if r < nw 0 ∧ c < nw 0 then nw (ps b r c) else 0 := by
  unfold tM rvV
  cases b
  · rw [if_neg (by decide), Nat.zero_add]; rfl
  · rw [if_pos rfl, Nat.zero_add]
    by_cases h : r < nw 0 ∧ c < nw 0
    · rw [if_pos h, if_pos ⟨h.2, h.1⟩]; rfl
    · rw [if_neg h, if_neg (fun q => h ⟨q.2, q.1⟩)]
theorem tM_tM (b : Bool) (m : Nat → Nat → Nat) : tM b (tM b m) = m := by
  funext i j
  unfold tM
  cases b
  · rw [if_neg (by decide), if_neg (by decide)]
  · rw [if_pos rfl, if_pos rfl]
theorem tM_ext {b : Bool} {m m' : Nat → Nat → Nat} (h : ∀ i j, tM b m i j = m' i j) : m = tM b m' := by
  rw [← tM_tM b m]
  congr 1
  funext i j
  exact h i j
def soF (b : Bool) (x n : Nat) (sh : Nat → Nat) (k : Nat) (w : Nat → Nat) : Nat → Nat := it (fun j w => updN (updN w (ps b x j) (w (ps b x j) - sh j)) (ps b n j) (sh j)) k w
def scF (b : Bool) (x n k : Nat) (w : Nat → Nat) : Nat → Nat := it (fun i w => updN w (ps b i n) (w (ps b i x))) k w
theorem soF_hi (b : Bool) {x n : Nat} (sh w : Nat → Nat) (hx : x < n) (hn : n ≤ 5) {z : Nat} (hz : z = 0 ∨ 37 ≤ z) : ∀ k, k ≤ n → soF b x n sh k w z = w z
  | 0, _ => rfl
  | k + 1, hk => by
    have h1 := ps_in (b := b) (r := n) (c := k) (by omega) (by omega)
    have h2 := ps_in (b := b) (r := x) (c := k) (by omega) (by omega)
    show updN (updN (soF b x n sh k w) (ps b x k) _) (ps b n k) (sh k) z = _
    simp only [updN]
    rw [if_neg (by omega), if_neg (by omega)]
    exact soF_hi b sh w hx hn hz k (by omega)
theorem soF_at (b : Bool) {x n : Nat} (sh w : Nat → Nat) (hx : x < n) (hn : n ≤ 5) : ∀ k, k ≤ n → ∀ r c, r < 6 → c < 6 → soF b x n sh k w (ps b r c) = if r = x ∧ c < k then w (ps b r c) - sh c else if r = n ∧ c < k then sh c else w (ps b r c)
  | 0, _, r, c, _, _ => by rw [if_neg (by omega), if_neg (by omega)]; rfl
  | k + 1, hk, r, c, hr, hc => by
    have ih := soF_at b sh w hx hn k (by omega)
    show updN (updN (soF b x n sh k w) (ps b x k) (soF b x n sh k w (ps b x k) - sh k)) (ps b n k) (sh k) (ps b r c) = _
    simp only [updN]
    have e1 := ps_inj (b := b) hr hc (show n < 6 by omega) (show k < 6 by omega)
    have e2 := ps_inj (b := b) hr hc (show x < 6 by omega) (show k < 6 by omega)
    rw [ih x k (by omega) (by omega), ih r c hr hc, if_neg (show ¬ (x = x ∧ k < k) by omega), if_neg (show ¬ (x = n ∧ k < k) by omega)]
    by_cases q1 : r = n ∧ c = k
    · rw [if_pos (e1.mpr q1), if_neg (by omega), if_pos (by omega), q1.2]
    · rw [if_neg (fun q => q1 (e1.mp q))]
      by_cases q2 : r = x ∧ c = k
      · rw [if_pos (e2.mpr q2), if_pos (by omega), q2.1, q2.2]
      · rw [if_neg (fun q => q2 (e2.mp q))]
        by_cases q3 : r = x ∧ c < k
        · rw [if_pos q3, if_pos (by omega)]
        · rw [if_neg q3, if_neg (show ¬ (r = x ∧ c < k + 1) by omega)]
          by_cases q4 : r = n ∧ c < k
          · rw [if_pos q4, if_pos (by omega)]
          · rw [if_neg q4, if_neg (by omega)]
theorem soF_le (b : Bool) {x n : Nat} (sh w : Nat → Nat) (hx : x < n) (hn : n ≤ 5) {j : Nat} (hj : j < n) : soF b x n sh j w (ps b x j) = w (ps b x j) := by
  rw [soF_at b sh w hx hn j (by omega) x j (by omega) (by omega), if_neg (by omega), if_neg (by omega)]
theorem scF_hi (b : Bool) {x n : Nat} (w : Nat → Nat) (hx : x < n) (hn : n ≤ 5) {z : Nat} (hz : z = 0 ∨ 37 ≤ z) : ∀ k, k ≤ n + 1 → scF b x n k w z = w z
  | 0, _ => rfl
  | k + 1, hk => by
    have h1 := ps_in (b := b) (r := k) (c := n) (by omega) (by omega)
    show updN (scF b x n k w) (ps b k n) _ z = _
    simp only [updN]
    rw [if_neg (by omega)]
    exact scF_hi b w hx hn hz k (by omega)
theorem scF_at (b : Bool) {x n : Nat} (w : Nat → Nat) (hx : x < n) (hn : n ≤ 5) : ∀ k, k ≤ n + 1 → ∀ r c, r < 6 → c < 6 → scF b x n k w (ps b r c) = if c = n ∧ r < k then w (ps b r x) else w (ps b r c)
  | 0, _, r, c, _, _ => by rw [if_neg (by omega)]; rfl
  | k + 1, hk, r, c, hr, hc => by
    have ih := scF_at b w hx hn k (by omega)
    show updN (scF b x n k w) (ps b k n) (scF b x n k w (ps b k x)) (ps b r c) = _
    simp only [updN]
    have e1 := ps_inj (b := b) hr hc (show k < 6 by omega) (show n < 6 by omega)
    rw [ih k x (by omega) (by omega), ih r c hr hc, if_neg (show ¬ (x = n ∧ k < k) by omega)]
    by_cases q1 : r = k ∧ c = n
    · rw [if_pos (e1.mpr q1), if_pos (by omega), q1.1]
    · rw [if_neg (fun q => q1 (e1.mp q))]
      by_cases q2 : c = n ∧ r < k
      · rw [if_pos q2, if_pos (by omega)]
      · rw [if_neg q2, if_neg (by omega)]
def ssM (b : Bool) (x : Nat) (sh nw : Nat → Nat) : Nat → Nat := updN (scF b x (nw 0) (nw 0 + 1) (soF b x (nw 0) sh (nw 0) nw)) 0 (nw 0 + 1)
theorem ssM_0 (b : Bool) (x : Nat) (sh nw : Nat → Nat) : ssM b x sh nw 0 = nw 0 + 1 := by unfold ssM; simp [updN]
theorem ssM_hi (b : Bool) {x : Nat} (sh nw : Nat → Nat) (hx : x < nw 0) (hn : nw 0 ≤ 5) {z : Nat} (hz : 37 ≤ z) : ssM b x sh nw z = nw z := by
  unfold ssM; simp only [updN]
  rw [if_neg (by omega), scF_hi b _ hx hn (Or.inr hz) _ (Nat.le_refl _), soF_hi b sh nw hx hn (Or.inr hz) _ (Nat.le_refl _)]
theorem ssM_at (b : Bool) {x : Nat} (sh nw : Nat → Nat) (hx : x < nw 0) (hn : nw 0 ≤ 5) {r c : Nat} (hr : r < 6) (hc : c < 6) : ssM b x sh nw (ps b r c) = if c = nw 0 ∧ r < nw 0 + 1 then (if r = x then nw (ps b r x) - sh x else if r = nw 0 then sh x else nw (ps b r x)) else (if r = x ∧ c < nw 0 then nw (ps b r c) - sh c else if r = nw 0 ∧ c < nw 0 then sh c else nw (ps b r c)) := by
  have h1 := ps_in (b := b) hr hc
  unfold ssM; simp only [updN]
  rw [if_neg (by omega), scF_at b _ hx hn _ (Nat.le_refl _) r c hr hc, soF_at b sh nw hx hn _ (Nat.le_refl _) r c hr hc, soF_at b sh nw hx hn _ (Nat.le_refl _) r x hr (by omega)]
  by_cases q : c = nw 0 ∧ r < nw 0 + 1
  · rw [if_pos q, if_pos q]
    by_cases q1 : r = x
    · rw [if_pos ⟨q1, hx⟩, if_pos q1]
    · rw [if_neg (fun z => q1 z.1), if_neg q1]
      by_cases q2 : r = nw 0
      · rw [if_pos ⟨q2, hx⟩, if_pos q2]
      · rw [if_neg (fun z => q2 z.1), if_neg q2]
  · rw [if_neg q, if_neg q]
theorem am_split (b : Bool) {x : Nat} (sh nw : Nat → Nat) (hx : x < nw 0) (hn : nw 0 ≤ 5) : amM (ssM b x sh nw) 0 = (nw 0 + 1, tM b (spM (nw 0) x sh (tM b (rvV nw 0)))) := by
  have e0 := ssM_0 b x sh nw
  show (ssM b x sh nw 0, rvV (ssM b x sh nw) 0) = _
  rw [e0]
  congr 1
  refine tM_ext fun r c => ?_
  rw [rv_tM, e0]
  unfold spM
  simp only
  by_cases h : r < nw 0 + 1 ∧ c < nw 0 + 1
  · rw [if_pos h, ssM_at b sh nw hx hn (by omega) (by omega)]
    by_cases q : c = nw 0
    · rw [if_pos ⟨q, h.1⟩, if_neg (show ¬ (r < nw 0 + 1 ∧ c < nw 0) by omega), if_pos (show r < nw 0 + 1 ∧ c = nw 0 from ⟨h.1, q⟩)]
      by_cases q1 : r = x
      · rw [if_pos q1, if_pos q1, rv_tM, if_pos ⟨hx, hx⟩, q1]
      · rw [if_neg q1, if_neg q1]
        by_cases q2 : r = nw 0
        · rw [if_pos q2, if_pos q2]
        · rw [if_neg q2, if_neg q2, rv_tM, if_pos ⟨by omega, hx⟩]
    · have hcn : c < nw 0 := by omega
      rw [if_neg (fun z => q z.1), if_pos (show r < nw 0 + 1 ∧ c < nw 0 from ⟨h.1, hcn⟩)]
      by_cases q1 : r = x
      · rw [if_pos ⟨q1, hcn⟩, if_pos q1, rv_tM, if_pos ⟨hx, hcn⟩, q1]
      · rw [if_neg (fun z => q1 z.1), if_neg q1]
        by_cases q2 : r = nw 0
        · rw [if_pos ⟨q2, hcn⟩, if_pos q2]
        · rw [if_neg (fun z => q2 z.1), if_neg q2, rv_tM, if_pos ⟨by omega, hcn⟩]
  · rw [if_neg h, if_neg (by omega), if_neg (by omega)]
theorem am_split2 (b : Bool) {x : Nat} (sh nw : Nat → Nat) (hx : x < nw 0) (hn : nw 0 ≤ 5) (h37 : nw 37 ≤ 6) : amM (ssM b x sh nw) 37 = amM nw 37 :=
  amM_shift h37 fun z _ => ssM_hi b sh nw hx hn (by omega)
theorem ps_ij {b : Bool} {i j : Nat} : 0 + (1 + 6 * i + j) = ps b (if b = true then j else i) (if b = true then i else j) := by
  cases b
  · rw [if_neg (by decide), if_neg (by decide), Nat.zero_add]; rfl
  · rw [if_pos rfl, if_pos rfl, Nat.zero_add]; rfl
theorem MI_split (b : Bool) {nw bf sh : Nat → Nat} {um x : Nat} (hI : MI nw bf sh um) (hx : x < nw 0) (hn : nw 0 ≤ 5) : MI (ssM b x sh nw) (kpB nw bf um) sh (kpM um + 1) := by
  obtain ⟨g1, g3, hN, hB, hS, hu, hz, hbz⟩ := id hI
  have e0 := ssM_0 b x sh nw
  have e37 : ssM b x sh nw 37 = nw 37 := ssM_hi b sh nw hx hn (by omega)
  have h9 : ∀ r c, r < 6 → c < 6 → ssM b x sh nw (ps b r c) ≤ 9 := fun r c hr hc => by
    rw [ssM_at b sh nw hx hn hr hc]
    have h1 := hN (ps b r x)
    have h2 := hS x
    have h3 := hN (ps b r c)
    have h4 := hS c
    split
    · split
      · omega
      · split <;> omega
    · split
      · omega
      · split <;> omega
  refine MI_keep hI (by rw [e0]; omega) (by rw [e37]; exact g3) (fun z => ?_) (fun d hd i j hi hj hij => ?_)
  · by_cases z0 : z = 0
    · rw [z0, e0]; omega
    · by_cases z37 : 37 ≤ z
      · rw [ssM_hi b sh nw hx hn z37]; exact hN z
      · have : z = 0 + (1 + 6 * ((z - 1) / 6) + (z - 1) % 6) := by omega
        rw [this, ps_ij (b := b)]
        exact h9 _ _ (by split <;> omega) (by split <;> omega)
  · rcases hd with rfl | rfl
    · rw [e0] at hij
      rw [ps_ij (b := b), ssM_at b sh nw hx hn (by split <;> omega) (by split <;> omega)]
      have hq : nw (ps b (if b = true then j else i) (if b = true then i else j)) = 0 := by
        rw [← ps_ij]; exact hz 0 (Or.inl rfl) i j hi hj (by omega)
      generalize hr : (if b = true then j else i) = r at *
      generalize hc : (if b = true then i else j) = c at *
      have hrc : ¬ (r < nw 0 + 1 ∧ c < nw 0 + 1) := by
        cases b
        · rw [if_neg (by decide)] at hr hc; omega
        · rw [if_pos rfl] at hr hc; omega
      rw [if_neg (by omega), if_neg (by omega), if_neg (by omega), hq]
    · rw [e37] at hij
      rw [ssM_hi b sh nw hx hn (by omega)]
      exact hz 37 (Or.inr rfl) i j hi hj hij
theorem ss_no (b : Bool) {nw bf sh : Nat → Nat} {um : Nat} {c : MC} {p : Int32} (hI : MI nw bf sh um) (hp : hasI (nw 0) p = false) : mcP (spSplit b (asM nw bf sh um) p) (-1000001) ((nw, bf, sh, um), c) := by
  have e : spSplit b (asM nw bf sh um) p = (-1000001, asM nw bf sh um) := by
    show spSplitC b (nw 0) (rvV nw 0) (amM nw 37) (hiM bf um) sh p = _
    unfold spSplitC
    rw [if_neg (by rw [hp]; decide)]
    rfl
  rw [e]
  exact ⟨rfl, rfl, hI⟩
theorem ss_np (b : Bool) {nw bf sh : Nat → Nat} {um x i : Nat} {c : MC} (hI : MI nw bf sh um) (hp : hasI (nw 0) (nI x) = true) (hx : (nI x).toNatClampNeg = x) (hxn : x < nw 0) (hi : i < nw 0) (h : nw (ps b x i) < sh i) : mcP (spSplit b (asM nw bf sh um) (nI x)) (-1000002) ((nw, bf, sh, um), c) := by
  have e : spSplit b (asM nw bf sh um) (nI x) = (-1000002, asM nw bf sh um) := by
    show spSplitC b (nw 0) (rvV nw 0) (amM nw 37) (hiM bf um) sh (nI x) = _
    unfold spSplitC
    rw [if_pos hp, if_neg (fun q => by
      have := q i hi
      rw [hx, rv_tM, if_pos ⟨hxn, hi⟩] at this
      omega)]
    rfl
  rw [e]
  exact ⟨rfl, rfl, hI⟩
theorem ss_c (b : Bool) {nw sh : Nat → Nat} {x : Nat} (hxn : x < nw 0) (h : ∀ j, j < nw 0 → sh j ≤ nw (ps b x j)) : ∀ j, j < nw 0 → sh j ≤ tM b (rvV nw 0) x j := fun j hj => by
  rw [rv_tM, if_pos ⟨hxn, hj⟩]; exact h j hj
theorem ss_lr (b : Bool) {nw bf sh : Nat → Nat} {um x : Nat} {c : MC} (hI : MI nw bf sh um) (hp : hasI (nw 0) (nI x) = true) (hx : (nI x).toNatClampNeg = x) (hxn : x < nw 0) (h : ∀ j, j < nw 0 → sh j ≤ nw (ps b x j)) (h6 : nw 0 = 6) : mcP (spSplit b (asM nw bf sh um) (nI x)) (-1000003) ((nw, bf, sh, um), c) := by
  have e : spSplit b (asM nw bf sh um) (nI x) = (-1000003, asM nw bf sh um) := by
    show spSplitC b (nw 0) (rvV nw 0) (amM nw 37) (hiM bf um) sh (nI x) = _
    unfold spSplitC
    rw [if_pos hp, if_pos (by rw [hx]; exact ss_c b hxn h), if_pos h6]
    rfl
  rw [e]
  exact ⟨rfl, rfl, hI⟩
theorem ss_ok (b : Bool) {nw bf sh : Nat → Nat} {um x : Nat} {c : MC} (hI : MI nw bf sh um) (hp : hasI (nw 0) (nI x) = true) (hx : (nI x).toNatClampNeg = x) (hxn : x < nw 0) (h : ∀ j, j < nw 0 → sh j ≤ nw (ps b x j)) (h6 : nw 0 ≠ 6) : mcP (spSplit b (asM nw bf sh um) (nI x)) (nI (nw 0 + 1)) ((ssM b x sh nw, kpB nw bf um, sh, kpM um + 1), c) := by
  have h66 := hI.1.2
  have h5 : nw 0 ≤ 5 := by omega
  have e : spSplit b (asM nw bf sh um) (nI x) = (nI (nw 0 + 1), ((nw 0 + 1, tM b (spM (nw 0) x sh (tM b (rvV nw 0)))), amM nw 37, kpS (asM nw bf sh um), sh)) := by
    show spSplitC b (nw 0) (rvV nw 0) (amM nw 37) (hiM bf um) sh (nI x) = _
    unfold spSplitC
    rw [if_pos hp, if_pos (by rw [hx]; exact ss_c b hxn h), if_neg h6, hx]
    rfl
  rw [e]
  exact ⟨rfl, asM_keep hI _ (am_split b sh nw hxn h5) (am_split2 b sh nw hxn h5 hI.2.1.2), MI_split b hI hxn h5⟩
/-! merges -/
def fiM (b : Bool) (nw : Nat → Nat) (lo hi k : Nat) : Bool := it (fun k f => f && (decide (k = hi) || decide (nw (ps b lo k) + nw (ps b hi k) ≤ 9))) k true
theorem fiM_s (b : Bool) (nw : Nat → Nat) (lo hi k : Nat) : fiM b nw lo hi (k + 1) = (fiM b nw lo hi k && (decide (k = hi) || decide (nw (ps b lo k) + nw (ps b hi k) ≤ 9))) := rfl
theorem fiM_iff (b : Bool) (nw : Nat → Nat) (lo hi : Nat) : ∀ k, fiM b nw lo hi k = true ↔ ∀ t, t < k → t ≠ hi → nw (ps b lo t) + nw (ps b hi t) ≤ 9
  | 0 => ⟨fun _ t h => absurd h (Nat.not_lt_zero t), fun _ => rfl⟩
  | k + 1 => by
    rw [fiM_s, Bool.and_eq_true, Bool.or_eq_true, decide_eq_true_eq, decide_eq_true_eq, fiM_iff b nw lo hi k]
    constructor
    · rintro ⟨h1, h2⟩ t ht hne
      by_cases e : t = k
      · subst e
        rcases h2 with h2 | h2
        · exact absurd h2 hne
        · exact h2
      · exact h1 t (by omega) hne
    · intro h
      refine ⟨fun t ht => h t (by omega), ?_⟩
      by_cases e : k = hi
      · exact Or.inl e
      · exact Or.inr (h k (by omega) e)
def maF (b : Bool) (lo hi k : Nat) (w : Nat → Nat) : Nat → Nat := it (fun k w => updN w (ps b lo k) (w (ps b lo k) + w (ps b hi k))) k w
theorem maF_hi (b : Bool) {lo hi : Nat} (w : Nat → Nat) (hl : lo < 6) {z : Nat} (hz : z = 0 ∨ 37 ≤ z) : ∀ k, k ≤ 6 → maF b lo hi k w z = w z
  | 0, _ => rfl
  | k + 1, hk => by
    have h1 := ps_in (b := b) (r := lo) (c := k) hl (by omega)
    show updN (maF b lo hi k w) (ps b lo k) _ z = _
    simp only [updN]
    rw [if_neg (by omega)]
    exact maF_hi b w hl hz k (by omega)
theorem maF_at (b : Bool) {lo hi : Nat} (w : Nat → Nat) (hl : lo < 6) (hh : hi < 6) (hne : lo ≠ hi) : ∀ k, k ≤ 6 → ∀ r c, r < 6 → c < 6 → maF b lo hi k w (ps b r c) = if r = lo ∧ c < k then w (ps b lo c) + w (ps b hi c) else w (ps b r c)
  | 0, _, r, c, _, _ => by rw [if_neg (by omega)]; rfl
  | k + 1, hk, r, c, hr, hc => by
    have ih := maF_at b w hl hh hne k (by omega)
    show updN (maF b lo hi k w) (ps b lo k) (maF b lo hi k w (ps b lo k) + maF b lo hi k w (ps b hi k)) (ps b r c) = _
    simp only [updN]
    have e1 := ps_inj (b := b) hr hc hl (show k < 6 by omega)
    rw [ih lo k hl (by omega), ih hi k hh (by omega), ih r c hr hc, if_neg (show ¬ (lo = lo ∧ k < k) by omega), if_neg (show ¬ (hi = lo ∧ k < k) by omega)]
    by_cases q1 : r = lo ∧ c = k
    · rw [if_pos (e1.mpr q1), if_pos (by omega), q1.2]
    · rw [if_neg (fun q => q1 (e1.mp q))]
      by_cases q2 : r = lo ∧ c < k
      · rw [if_pos q2, if_pos (by omega)]
      · rw [if_neg q2, if_neg (by omega)]
theorem am_merge0 (b : Bool) {nw : Nat → Nat} {lo hi : Nat} (h6 : nw 0 ≤ 6) (hl : lo < hi) (hh : hi < nw 0) : rvV (maF b lo hi (nw 0) nw) 0 = tM b (mgM lo hi (tM b (rvV nw 0))) := by
  have e0 : maF b lo hi (nw 0) nw 0 = nw 0 := maF_hi b nw (by omega) (Or.inl rfl) _ h6
  refine tM_ext fun r c => ?_
  rw [rv_tM, e0]
  unfold mgM
  rw [rv_tM, rv_tM, rv_tM]
  by_cases h : r < nw 0 ∧ c < nw 0
  · rw [if_pos h, maF_at b nw (by omega) (by omega) (by omega) _ h6 r c (by omega) (by omega)]
    by_cases q : r = lo
    · rw [if_pos ⟨q, h.2⟩, if_pos q, if_pos ⟨by omega, h.2⟩, if_pos ⟨hh, h.2⟩]
    · rw [if_neg (fun z => q z.1), if_neg q, if_pos h]
  · rw [if_neg h]
    by_cases q : r = lo
    · rw [if_pos q, if_neg (by omega), if_neg (by omega)]
    · rw [if_neg q, if_neg h]
theorem sk_tM (b : Bool) (n s : Nat) (m : Nat → Nat → Nat) : skM n s (tM b m) = tM b (skM n s m) := by
  funext i j
  cases b
  · simp [tM, skM]
  · simp [tM, skM, and_comm]
theorem ma_9 (b : Bool) {nw : Nat → Nat} {lo hi : Nat} (h6 : nw 0 ≤ 6) (hN : ∀ k, nw k ≤ 9) (hl : lo < hi) (hh : hi < nw 0) (hc : ∀ t, t < nw 0 → nw (ps b t lo) = nw (ps b t hi)) (hf : fiM b nw lo hi (nw 0) = true) (z : Nat) : maF b lo hi (nw 0) nw z ≤ 9 := by
  have hf := (fiM_iff b nw lo hi (nw 0)).mp hf
  by_cases z0 : z = 0 ∨ 37 ≤ z
  · rw [maF_hi b nw (by omega) z0 _ h6]; exact hN z
  · have : z = 0 + (1 + 6 * ((z - 1) / 6) + (z - 1) % 6) := by omega
    rw [this, ps_ij (b := b)]
    generalize hr : (if b = true then (z - 1) % 6 else (z - 1) / 6) = r
    generalize hq : (if b = true then (z - 1) / 6 else (z - 1) % 6) = c
    have hr6 : r < 6 := by rw [← hr]; split <;> omega
    have hc6 : c < 6 := by rw [← hq]; split <;> omega
    rw [maF_at b nw (by omega) (by omega) (by omega) _ h6 r c hr6 hc6]
    split
    · next h =>
      by_cases e : c = hi
      · rw [e, ← hc lo (by omega), ← hc hi hh]
        exact hf lo (by omega) (by omega)
      · exact hf c h.2 e
    · exact hN _
theorem MI_ma (b : Bool) {nw bf sh : Nat → Nat} {um lo hi : Nat} (hI : MI nw bf sh um) (hl : lo < hi) (hh : hi < nw 0) (hc : ∀ t, t < nw 0 → nw (ps b t lo) = nw (ps b t hi)) (hf : fiM b nw lo hi (nw 0) = true) : MI (maF b lo hi (nw 0) nw) (kpB nw bf um) sh (kpM um + 1) := by
  obtain ⟨g1, g3, hN, hB, hS, hu, hz, hbz⟩ := id hI
  have e0 : maF b lo hi (nw 0) nw 0 = nw 0 := maF_hi b nw (by omega) (Or.inl rfl) _ g1.2
  have e37 : maF b lo hi (nw 0) nw 37 = nw 37 := maF_hi b nw (by omega) (Or.inr (by omega)) _ g1.2
  refine MI_keep hI (by rw [e0]; exact g1) (by rw [e37]; exact g3) (ma_9 b g1.2 hN hl hh hc hf) (fun d hd i j hi2 hj hij => ?_)
  rcases hd with rfl | rfl
  · rw [e0] at hij
    have hq := hz 0 (Or.inl rfl) i j hi2 hj hij
    rw [ps_ij (b := b)] at hq ⊢
    rw [maF_at b nw (by omega) (by omega) (by omega) _ g1.2 _ _ (by split <;> omega) (by split <;> omega)]
    generalize hr : (if b = true then j else i) = r at *
    generalize hcc : (if b = true then i else j) = c at *
    have hrc : ¬ (r < nw 0 ∧ c < nw 0) := by
      cases b
      · rw [if_neg (by decide)] at hr hcc; omega
      · rw [if_pos rfl] at hr hcc; omega
    rw [if_neg (by omega)]; exact hq
  · rw [e37] at hij
    rw [maF_hi b nw (by omega) (Or.inr (by omega)) _ g1.2]
    exact hz 37 (Or.inr rfl) i j hi2 hj hij
theorem mm_no (b : Bool) {nw bf sh : Nat → Nat} {um : Nat} {c : MC} {p q : Int32} (hI : MI nw bf sh um) (hp : ¬ (hasI (nw 0) p = true ∧ hasI (nw 0) q = true ∧ p ≠ q)) : mcP (spMerge b (asM nw bf sh um) p q) (-1000001) ((nw, bf, sh, um), c) := by
  have e : spMerge b (asM nw bf sh um) p q = (-1000001, asM nw bf sh um) := by
    show spMergeC b (nw 0) (rvV nw 0) (amM nw 37) (hiM bf um) sh p q = _
    unfold spMergeC
    rw [if_neg hp]
    rfl
  rw [e]
  exact ⟨rfl, rfl, hI⟩
theorem mm_cols (b : Bool) {nw : Nat → Nat} {x y : Nat} (hx : x < nw 0) (hy : y < nw 0) : (∀ k, k < nw 0 → tM b (rvV nw 0) k x = tM b (rvV nw 0) k y) ↔ ∀ t, t < nw 0 → nw (ps b t (Nat.min x y)) = nw (ps b t (Nat.max x y)) := by
  have e : ∀ k z, k < nw 0 → z < nw 0 → tM b (rvV nw 0) k z = nw (ps b k z) := fun k z hk hz => by rw [rv_tM, if_pos ⟨hk, hz⟩]
  by_cases h : x ≤ y
  · rw [show Nat.min x y = x from Nat.min_eq_left h, show Nat.max x y = y from Nat.max_eq_right h]
    exact ⟨fun q t ht => by rw [← e t x ht hx, ← e t y ht hy]; exact q t ht, fun q t ht => by rw [e t x ht hx, e t y ht hy]; exact q t ht⟩
  · rw [show Nat.min x y = y from Nat.min_eq_right (by omega), show Nat.max x y = x from Nat.max_eq_left (by omega)]
    exact ⟨fun q t ht => by rw [← e t x ht hx, ← e t y ht hy]; exact (q t ht).symm, fun q t ht => by rw [e t x ht hx, e t y ht hy]; exact (q t ht).symm⟩
theorem mm_fits (b : Bool) {nw : Nat → Nat} {lo hi : Nat} (hN : ∀ k, nw k ≤ 9) (hl : lo < hi) (hh : hi < nw 0) : (∀ i, i < nw 0 - 1 → ∀ j, j < nw 0 - 1 → spMergeM b (nw 0) lo hi (rvV nw 0) i j ≤ 9) ↔ fiM b nw lo hi (nw 0) = true := by
  rw [fiM_iff]
  have ev : ∀ i j, i < nw 0 - 1 → j < nw 0 - 1 → spMergeM b (nw 0) lo hi (rvV nw 0) i j = if sk hi i = lo then nw (ps b lo (sk hi j)) + nw (ps b hi (sk hi j)) else nw (ps b (sk hi i) (sk hi j)) := fun i j hi2 hj => by
    have s1 : sk hi i < nw 0 := by have := sk_le hi i; omega
    have s2 : sk hi j < nw 0 := by have := sk_le hi j; omega
    unfold spMergeM skM mgM
    rw [if_pos ⟨hi2, hj⟩]
    by_cases e : sk hi i = lo
    · rw [if_pos e, if_pos e, rv_tM, rv_tM, if_pos ⟨by omega, s2⟩, if_pos ⟨hh, s2⟩]
    · rw [if_neg e, if_neg e, rv_tM, if_pos ⟨s1, s2⟩]
  constructor
  · intro h t ht hne
    have hlo : sk hi lo = lo := sk_lt hl
    by_cases e : t < hi
    · have := h lo (by omega) t (by omega)
      rw [ev lo t (by omega) (by omega), if_pos hlo, sk_lt e] at this
      exact this
    · have := h lo (by omega) (t - 1) (by omega)
      rw [ev lo (t - 1) (by omega) (by omega), if_pos hlo, sk_ge (show ¬ t - 1 < hi by omega), show t - 1 + 1 = t by omega] at this
      exact this
  · intro h i hi2 j hj
    rw [ev i j hi2 hj]
    split
    · refine h _ (by have := sk_le hi j; omega) ?_
      unfold sk; split <;> omega
    · exact hN _
theorem mm_np (b : Bool) {nw bf sh : Nat → Nat} {um x y i : Nat} {c : MC} (hI : MI nw bf sh um) (hp : hasI (nw 0) (nI x) = true) (hq : hasI (nw 0) (nI y) = true) (hne : nI x ≠ nI y) (hx : (nI x).toNatClampNeg = x) (hy : (nI y).toNatClampNeg = y) (hxn : x < nw 0) (hyn : y < nw 0) (hi : i < nw 0) (h : nw (ps b i (Nat.min x y)) ≠ nw (ps b i (Nat.max x y))) : mcP (spMerge b (asM nw bf sh um) (nI x) (nI y)) (-1000002) ((nw, bf, sh, um), c) := by
  have e : spMerge b (asM nw bf sh um) (nI x) (nI y) = (-1000002, asM nw bf sh um) := by
    show spMergeC b (nw 0) (rvV nw 0) (amM nw 37) (hiM bf um) sh (nI x) (nI y) = _
    unfold spMergeC
    rw [if_pos ⟨hp, hq, hne⟩, hx, hy, if_neg (fun q => h ((mm_cols b hxn hyn).mp q i hi))]
    rfl
  rw [e]
  exact ⟨rfl, rfl, hI⟩
theorem mm_mm {x y n : Nat} (hx : x < n) (hy : y < n) (hne : x ≠ y) : Nat.min x y < Nat.max x y ∧ Nat.max x y < n := by
  by_cases h : x ≤ y
  · rw [show Nat.min x y = x from Nat.min_eq_left h, show Nat.max x y = y from Nat.max_eq_right h]; omega
  · rw [show Nat.min x y = y from Nat.min_eq_right (by omega), show Nat.max x y = x from Nat.max_eq_left (by omega)]; omega
theorem mm_lr (b : Bool) {nw bf sh : Nat → Nat} {um x y : Nat} {c : MC} (hI : MI nw bf sh um) (hp : hasI (nw 0) (nI x) = true) (hq : hasI (nw 0) (nI y) = true) (hne : nI x ≠ nI y) (hx : (nI x).toNatClampNeg = x) (hy : (nI y).toNatClampNeg = y) (hxn : x < nw 0) (hyn : y < nw 0) (hc : ∀ t, t < nw 0 → nw (ps b t (Nat.min x y)) = nw (ps b t (Nat.max x y))) (hf : fiM b nw (Nat.min x y) (Nat.max x y) (nw 0) = false) : mcP (spMerge b (asM nw bf sh um) (nI x) (nI y)) (-1000003) ((nw, bf, sh, um), c) := by
  have hxy := mm_mm hxn hyn (fun q => hne (by rw [q]))
  have e : spMerge b (asM nw bf sh um) (nI x) (nI y) = (-1000003, asM nw bf sh um) := by
    show spMergeC b (nw 0) (rvV nw 0) (amM nw 37) (hiM bf um) sh (nI x) (nI y) = _
    unfold spMergeC
    rw [if_pos ⟨hp, hq, hne⟩, hx, hy, if_pos ((mm_cols b hxn hyn).mpr hc), if_neg (fun q => by
      have := (mm_fits b hI.2.2.1 hxy.1 hxy.2).mp q
      rw [hf] at this
      cases this)]
    rfl
  rw [e]
  exact ⟨rfl, rfl, hI⟩
theorem mm_ok (b : Bool) {nw bf sh : Nat → Nat} {um x y : Nat} {c : MC} (hI : MI nw bf sh um) (hp : hasI (nw 0) (nI x) = true) (hq : hasI (nw 0) (nI y) = true) (hne : nI x ≠ nI y) (hx : (nI x).toNatClampNeg = x) (hy : (nI y).toNatClampNeg = y) (hxn : x < nw 0) (hyn : y < nw 0) (hc : ∀ t, t < nw 0 → nw (ps b t (Nat.min x y)) = nw (ps b t (Nat.max x y))) (hf : fiM b nw (Nat.min x y) (Nat.max x y) (nw 0) = true) : mcP (spMerge b (asM nw bf sh um) (nI x) (nI y)) (nI (goM (Nat.max x y) (maF b (Nat.min x y) (Nat.max x y) (nw 0) nw) 0)) ((goM (Nat.max x y) (maF b (Nat.min x y) (Nat.max x y) (nw 0) nw), kpB nw bf um, sh, kpM um + 1), c) := by
  have hxy := mm_mm hxn hyn (fun q => hne (by rw [q]))
  have h6 := hI.1.2
  have e0 : maF b (Nat.min x y) (Nat.max x y) (nw 0) nw 0 = nw 0 := maF_hi b nw (by omega) (Or.inl rfl) _ h6
  have e37 : maF b (Nat.min x y) (Nat.max x y) (nw 0) nw 37 = nw 37 := maF_hi b nw (by omega) (Or.inr (by omega)) _ h6
  have hM := MI_ma b hI hxy.1 hxy.2 hc hf
  have e : spMerge b (asM nw bf sh um) (nI x) (nI y) = (nI (nw 0 - 1), ((nw 0 - 1, tM b (spMergeM b (nw 0) (Nat.min x y) (Nat.max x y) (rvV nw 0))), amM nw 37, kpS (asM nw bf sh um), sh)) := by
    show spMergeC b (nw 0) (rvV nw 0) (amM nw 37) (hiM bf um) sh (nI x) (nI y) = _
    unfold spMergeC
    rw [if_pos ⟨hp, hq, hne⟩, hx, hy, if_pos ((mm_cols b hxn hyn).mpr hc), if_pos ((mm_fits b hI.2.2.1 hxy.1 hxy.2).mpr hf)]
    rfl
  rw [e, goM_0, e0]
  refine ⟨rfl, asM_keep hI _ ?_ ?_, MI_goes hM (by rw [e0]; exact hxy.2) (by rw [e0]; omega)⟩
  · rw [am_goes (by rw [e0]; exact hxy.2) (by rw [e0]; exact h6), e0, am_merge0 b h6 hxy.1 hxy.2, sk_tM]; rfl
  · rw [am_goes2 (by rw [e0]; exact hxy.2) (by rw [e0]; exact h6) (by rw [e37]; exact hI.2.1.2)]
    exact amM_shift hI.2.1.2 fun z _ => maF_hi b nw (by omega) (Or.inr (by omega)) _ h6
theorem fi_t1 {b : Bool} {nw : Nat → Nat} {lo hi k : Nat} (h : fiM b nw lo hi k = true) (e : k = hi) : fiM b nw lo hi (k + 1) = true := by rw [fiM_s, h, decide_eq_true e]; rfl
theorem fi_t2 {b : Bool} {nw : Nat → Nat} {lo hi k : Nat} (h : fiM b nw lo hi k = true) (e : nw (ps b lo k) + nw (ps b hi k) ≤ 9) : fiM b nw lo hi (k + 1) = true := by rw [fiM_s, h, decide_eq_true e, Bool.or_true]; rfl
theorem fi_f1 {b : Bool} {nw : Nat → Nat} {lo hi k : Nat} (h : fiM b nw lo hi k = false) : fiM b nw lo hi (k + 1) = false := by rw [fiM_s, h]; rfl
theorem fi_f2 {b : Bool} {nw : Nat → Nat} {lo hi k : Nat} (e : k ≠ hi) (e2 : 9 < nw (ps b lo k) + nw (ps b hi k)) : fiM b nw lo hi (k + 1) = false := by rw [fiM_s, decide_eq_false e, decide_eq_false (Nat.not_le.mpr e2)]; exact Bool.and_false _
theorem hd_X6_outSplit : yX6_outSplit.cls = RX6 ∧ yX6_outSplit.cls ≠ "java/lang/invoke/MethodHandle" ∧ yX6_outSplit.cls ≠ "java/lang/invoke/VarHandle" ∧ (parseMethodDescriptor yX6_outSplit.desc).map (fun d => d.parameters.length) = some 1 := by decide +kernel
theorem hd_X6_inSplit : yX6_inSplit.cls = RX6 ∧ yX6_inSplit.cls ≠ "java/lang/invoke/MethodHandle" ∧ yX6_inSplit.cls ≠ "java/lang/invoke/VarHandle" ∧ (parseMethodDescriptor yX6_inSplit.desc).map (fun d => d.parameters.length) = some 1 := by decide +kernel
theorem hd_X6_outMerge : yX6_outMerge.cls = RX6 ∧ yX6_outMerge.cls ≠ "java/lang/invoke/MethodHandle" ∧ yX6_outMerge.cls ≠ "java/lang/invoke/VarHandle" ∧ (parseMethodDescriptor yX6_outMerge.desc).map (fun d => d.parameters.length) = some 2 := by decide +kernel
theorem hd_X6_inMerge : yX6_inMerge.cls = RX6 ∧ yX6_inMerge.cls ≠ "java/lang/invoke/MethodHandle" ∧ yX6_inMerge.cls ≠ "java/lang/invoke/VarHandle" ∧ (parseMethodDescriptor yX6_inMerge.desc).map (fun d => d.parameters.length) = some 2 := by decide +kernel
