/-! words of the eighth part: what each change does to the shown state -/
abbrev BC (G : gG) (ad : Nat → Nat) (lp : Nat → Int64) (u : CS × SC) : va_W := BW G ad u.1.1 u.1.2.1 u.1.2.2.1 u.1.2.2.2.1 u.2.1 u.2.2.1 u.1.2.2.2.2.1 u.1.2.2.2.2.2.1 u.1.2.2.2.2.2.2.1 u.1.2.2.2.2.2.2.2.1 u.2.2.2.1 u.2.2.2.2.1 u.2.2.2.2.2.1 u.2.2.2.2.2.2.1 u.2.2.2.2.2.2.2.1 u.2.2.2.2.2.2.2.2 u.1.2.2.2.2.2.2.2.2 lp
theorem BI_rem {n : Nat} {a : Nat → Nat} {n1 : Nat} {a1 : Nat → Nat} {nw ct : Nat} {hn : Nat → Nat} {ha : Nat → Nat → Nat} {sh : Nat → Nat} (hI : BI n a n1 a1 nw ct hn ha sh) {n' n1' : Nat} {a' a1' : Nat → Nat} (h1 : 1 ≤ n' ∧ n' ≤ 6) (h3 : 1 ≤ n1' ∧ n1' ≤ 6) (h9 : ∀ i j, mv n' a' i j ≤ 9) (h91 : ∀ i j, mv n1' a1' i j ≤ 9) : BIc (n', a', n1', a1', (nw + 1) % 4, Nat.min (ct + 1) 4, rmN hn nw n n1, rmA ha nw n a n1 a1, sh) := by
  obtain ⟨⟨g1, g2⟩, ⟨g3, g4⟩, g9, g91, hnw, hct, hhn, hha, hsh⟩ := hI
  refine ⟨h1, h3, h9, h91, Nat.mod_lt _ (by decide), Nat.min_le_right _ _, fun x hx => ?_, fun x hx i j => ?_, hsh⟩
  · show 1 ≤ upH (upH hn _ n) _ n1 x ∧ upH (upH hn _ n) _ n1 x ≤ 6
    simp only [upH]
    split
    · exact ⟨g3, g4⟩
    · split
      · exact ⟨g1, g2⟩
      · exact hhn x hx
  · show mv (upH (upH hn (2 * ((nw + 1) % 4)) n) (2 * ((nw + 1) % 4) + 1) n1 x) (upH (upH ha (2 * ((nw + 1) % 4)) (copyF n (mv n a) n (ha (2 * ((nw + 1) % 4))))) (2 * ((nw + 1) % 4) + 1) (copyF n1 (mv n1 a1) n1 (ha (2 * ((nw + 1) % 4) + 1))) x) i j ≤ 9
    simp only [upH]
    by_cases e1 : x = 2 * ((nw + 1) % 4) + 1
    · rw [if_pos e1, if_pos e1, mv_copy g4]; exact g91 i j
    · rw [if_neg e1, if_neg e1]
      by_cases e2 : x = 2 * ((nw + 1) % 4)
      · rw [if_pos e2, if_pos e2, mv_copy g2]; exact g9 i j
      · rw [if_neg e2, if_neg e2]; exact hha x hx i j
theorem as_keep {n : Nat} {a : Nat → Nat} {n1 : Nat} {a1 : Nat → Nat} {nw ct : Nat} {hn : Nat → Nat} {ha : Nat → Nat → Nat} {sh : Nat → Nat} (hI : BI n a n1 a1 nw ct hn ha sh) {n' n1' : Nat} {a' a1' : Nat → Nat} {x y : AM} (hx : amB n' a' = x) (hy : amB n1' a1' = y) : asB (n', a', n1', a1', (nw + 1) % 4, Nat.min (ct + 1) 4, rmN hn nw n n1, rmA ha nw n a n1 a1, sh) = (x, y, kpS (asB (n, a, n1, a1, nw, ct, hn, ha, sh)), sh) := by
  obtain ⟨⟨g1, g2⟩, ⟨g3, g4⟩, g9, g91, hnw, hct, hhn, hha, hsh⟩ := hI
  show (amB n' a', amB n1' a1', hiB ((nw + 1) % 4) (Nat.min (ct + 1) 4) (rmN hn nw n n1) (rmA ha nw n a n1 a1), sh) = (x, y, ((amB n a, amB n1 a1) :: hiB nw ct hn ha).take 4, sh)
  rw [hiB_rem hnw hct g2 g4, hx, hy]
def upM (m : Nat → Nat → Nat) (i j v : Nat) : Nat → Nat → Nat := fun r c => if r = i ∧ c = j then v else m r c
def tM (b : Bool) (m : Nat → Nat → Nat) : Nat → Nat → Nat := fun i j => if b = true then m j i else m i j
def spReset (s : AS) (p : Int32) : Int32 × AS := if iwI p (nI 1) (nI 6) = true then (nI s.1.1, ((p.toNatClampNeg, fun _ _ => 0), s.2.1, kpS s, s.2.2.2)) else (-1000001, s)
def spSet (s : AS) (p q v : Int32) : Int32 × AS := if hasI s.1.1 p = true ∧ hasI s.1.1 q = true ∧ iwI v (nI 0) (nI 9) = true then (nI (s.1.2 p.toNatClampNeg q.toNatClampNeg), ((s.1.1, upM s.1.2 p.toNatClampNeg q.toNatClampNeg v.toNatClampNeg), s.2.1, kpS s, s.2.2.2)) else (-1000001, s)
def trR (e : Nat) : Nat → AM → AM
  | 0, x => x
  | k + 1, x => trR e k (if e.testBit k = true then x else (x.1 - 1, skM x.1 k x.2))
def essV (n : Nat) (m : Nat → Nat → Nat) : Nat := esE n m n &&& esB n m n
def spTrimC (n : Nat) (m : Nat → Nat → Nat) (y : AM) (hs : List (AM × AM)) (sh : Nat → Nat) : Int32 × AS := if essV n m = 0 then (-1000002, ((n, m), y, hs, sh)) else (nI (n - (trR (essV n m) n (n, m)).1), (trR (essV n m) n (n, m), y, kpS ((n, m), y, hs, sh), sh))
def spTrim (s : AS) : Int32 × AS := spTrimC s.1.1 s.1.2 s.2.1 s.2.2.1 s.2.2.2
def spShare (s : AS) (p q : Int32) : Int32 × AS := if iwI p (nI 0) (nI 5) = true ∧ iwI q (nI 0) (nI 9) = true then (nI (s.2.2.2 p.toNatClampNeg), (s.1, s.2.1, s.2.2.1, updN s.2.2.2 p.toNatClampNeg q.toNatClampNeg)) else (-1000001, s)
def spSplitC (b : Bool) (n : Nat) (m : Nat → Nat → Nat) (y : AM) (hs : List (AM × AM)) (sh : Nat → Nat) (p : Int32) : Int32 × AS := if hasI n p = true then (if ∀ j, j < n → sh j ≤ tM b m p.toNatClampNeg j then (if n = 6 then (-1000003, ((n, m), y, hs, sh)) else (nI (n + 1), ((n + 1, tM b (spM n p.toNatClampNeg sh (tM b m))), y, kpS ((n, m), y, hs, sh), sh))) else (-1000002, ((n, m), y, hs, sh))) else (-1000001, ((n, m), y, hs, sh))
def spSplit (b : Bool) (s : AS) (p : Int32) : Int32 × AS := spSplitC b s.1.1 s.1.2 s.2.1 s.2.2.1 s.2.2.2 p
def spMergeM (b : Bool) (n lo hi : Nat) (m : Nat → Nat → Nat) : Nat → Nat → Nat := skM n hi (mgM lo hi (tM b m))
def spMergeC (b : Bool) (n : Nat) (m : Nat → Nat → Nat) (y : AM) (hs : List (AM × AM)) (sh : Nat → Nat) (p q : Int32) : Int32 × AS := if hasI n p = true ∧ hasI n q = true ∧ p ≠ q then (if ∀ k, k < n → tM b m k p.toNatClampNeg = tM b m k q.toNatClampNeg then (if ∀ i, i < n - 1 → ∀ j, j < n - 1 → spMergeM b n (Nat.min p.toNatClampNeg q.toNatClampNeg) (Nat.max p.toNatClampNeg q.toNatClampNeg) m i j ≤ 9 then (nI (n - 1), ((n - 1, tM b (spMergeM b n (Nat.min p.toNatClampNeg q.toNatClampNeg) (Nat.max p.toNatClampNeg q.toNatClampNeg) m)), y, kpS ((n, m), y, hs, sh), sh)) else (-1000003, ((n, m), y, hs, sh))) else (-1000002, ((n, m), y, hs, sh))) else (-1000001, ((n, m), y, hs, sh))
def spMerge (b : Bool) (s : AS) (p q : Int32) : Int32 × AS := spMergeC b s.1.1 s.1.2 s.2.1 s.2.2.1 s.2.2.2 p q
def spSave (s : AS) : Int32 × AS := (nI s.1.1, (s.1, s.1, s.2.2.1, s.2.2.2))
def spSwap (s : AS) : Int32 × AS := (nI s.2.1.1, (s.2.1, s.1, kpS s, s.2.2.2))
def spUndo (s : AS) : Int32 × AS := match s.2.2.1 with
  | [] => (-1000002, s)
  | h :: t => (nI t.length, (h.1, h.2, t, s.2.2.2))
/-- a change's end: the answer and the state that is shown -/
def spP (sp : Int32 × AS) (r : Int32) (u : CS × SC) : Prop := r = sp.1 ∧ asB u.1 = sp.2 ∧ BIc u.1
theorem am_fill {k : Nat} (h1 : 1 ≤ k) (h6 : k ≤ 6) (a : Nat → Nat) : amB (rs k) (fillF (rs k) 0 (rs k) a) = (k, fun _ _ => 0) := by
  rw [rs_id h1 h6, amB]
  have : mv k (fillF k 0 k a) = fun _ _ => 0 := by
    funext r c
    rw [mv_fill h6]
    split <;> rfl
  rw [this]
theorem am_put {n : Nat} {a : Nat → Nat} {i j v : Nat} (hn : n ≤ 6) (hi : i < n) (hj : j < n) : amB n (pu n a i j v) = (n, upM (mv n a) i j v) := by
  rw [amB]
  have : mv n (pu n a i j v) = upM (mv n a) i j v := by
    funext r c
    rw [mv_pu hn hi hj]; rfl
  rw [this]
theorem am_copy {n : Nat} (hn : n ≤ 6) (b a : Nat → Nat) : amB n (copyF n (mv n b) n a) = amB n b := by rw [amB, mv_copy hn]; rfl
/-- the matrix, turned if so -/
def ldF (b : Bool) (n : Nat) (a a2 : Nat → Nat) : Nat → Nat := if b = true then trF n n (copyF n (mv n a) n a2) else copyF n (mv n a) n a2
theorem mv_ld (b : Bool) {n : Nat} (hn : n ≤ 6) (a a2 : Nat → Nat) : mv n (ldF b n a a2) = tM b (mv n a) := by
  funext r c
  unfold ldF tM
  split
  · rw [mv_tr hn, mv_copy hn]
  · rw [mv_copy hn]
def cbB (e k : Nat) : Nat := it (fun x c => if e.testBit x = true then c + 1 else c) k 0
theorem cbB_s (e k : Nat) : cbB e (k + 1) = if e.testBit k = true then cbB e k + 1 else cbB e k := rfl
theorem cbB_le (e : Nat) : ∀ k, cbB e k ≤ k
  | 0 => Nat.le_refl 0
  | k + 1 => by have := cbB_le e k; rw [cbB_s]; split <;> omega
theorem cbB_mono (e : Nat) (k : Nat) : ∀ d, cbB e k ≤ cbB e (k + d)
  | 0 => Nat.le_refl _
  | d + 1 => by
    have := cbB_mono e k d
    rw [show k + (d + 1) = k + d + 1 by omega, cbB_s]; split <;> omega
theorem cbB_pos (e : Nat) : ∀ k, (∀ x, x < k → e.testBit x = false) ∨ 1 ≤ cbB e k
  | 0 => Or.inl (fun x h => absurd h (Nat.not_lt_zero x))
  | k + 1 => by
    rw [cbB_s]
    rcases cbB_pos e k with h | h
    · by_cases hb : e.testBit k = true
      · rw [if_pos hb]; exact Or.inr (by omega)
      · refine Or.inl (fun x hx => ?_)
        rcases Nat.lt_succ_iff_lt_or_eq.mp hx with q | q
        · exact h x q
        · rw [q]; simpa using hb
    · right; split <;> omega
theorem saF_ltn {n : Nat} (m : Nat → Nat → Nat) (set : Nat) : ∀ k, saF n m set k < 2 ^ n := by
  have hd : ∀ f k, k ≤ n → daF n m f k < 2 ^ n := by
    intro f k
    induction k with
    | zero => intro _; show 0 < 2 ^ n; exact Nat.two_pow_pos n
    | succ k ih =>
      intro h
      show (if m f k = 0 then daF n m f k else daF n m f k ||| 2 ^ k) < 2 ^ n
      split
      · exact ih (by omega)
      · exact Nat.or_lt_two_pow (ih (by omega)) (Nat.pow_lt_pow_right (by decide) (by omega))
  intro k
  induction k with
  | zero => show 0 < 2 ^ n; exact Nat.two_pow_pos n
  | succ k ih =>
    show (if set.testBit k = true then saF n m set k ||| daF n m k n else saF n m set k) < 2 ^ n
    split
    · exact Nat.or_lt_two_pow ih (hd k n (Nat.le_refl n))
    · exact ih
theorem essV_lt {n : Nat} (h1 : 1 ≤ n) (m : Nat → Nat → Nat) : essV n m < 2 ^ n := by
  obtain ⟨k, rfl⟩ : ∃ k, n = k + 1 := ⟨n - 1, by omega⟩
  exact Nat.lt_of_le_of_lt Nat.and_le_left (saF_ltn m _ _)
theorem cbB_ess {n : Nat} {e : Nat} (he : e < 2 ^ n) (h0 : e ≠ 0) : 1 ≤ cbB e n := by
  rcases cbB_pos e n with h | h
  · exfalso
    apply h0
    apply Nat.eq_of_testBit_eq
    intro x
    rw [Nat.zero_testBit]
    rcases Nat.lt_or_ge x n with q | q
    · exact h x q
    · exact Nat.testBit_lt_two_pow (Nat.lt_of_lt_of_le he (Nat.pow_le_pow_right (by decide) q))
  · exact h
def noEq (n : Nat) (m : Nat → Nat → Nat) : Prop := ∀ h, h < n → ∀ l, l < h → ¬ ∀ k, k < n → m k l = m k h
def coS : Nat → Nat → (Nat → Nat → Nat) → Nat → Prop
  | 0, n, m, k => noEq n m ∧ k = n
  | f + 1, n, m, k => (noEq n m ∧ k = n) ∨ ∃ l h, l < h ∧ h < n ∧ (∀ x, x < n → m x l = m x h) ∧ coS f (n - 1) (skM n h (mgM l h m)) k
theorem coS_end {n : Nat} {m : Nat → Nat → Nat} (h : noEq n m) : ∀ f, coS f n m n
  | 0 => ⟨h, rfl⟩
  | _ + 1 => Or.inl ⟨h, rfl⟩
theorem noEq_1 {n : Nat} {m : Nat → Nat → Nat} (h : n ≤ 1) : noEq n m := fun x hx l hl => absurd hl (by omega)
def coJ (n : Nat) (m : Nat → Nat → Nat) (i : Nat) (q : Nat) (aq : Nat → Nat) (b : Bool) : Prop := (∀ k, coS (5 - i) q (mv q aq) k → coS 5 n m k) ∧ (b = false → noEq q (mv q aq)) ∧ 1 ≤ q ∧ q ≤ 6 ∧ (b = true → q + i ≤ 6) ∧ ∀ r c, mv q aq r c ≤ 9 * 2 ^ i
theorem coJ_0 {n : Nat} {a a2 : Nat → Nat} (h1 : 1 ≤ n) (h2 : n ≤ 6) (h9 : ∀ i j, mv n a i j ≤ 9) : coJ n (mv n a) 0 n (copyF n (mv n a) n a2) true := by
  refine ⟨fun k h => ?_, (fun h => by cases h), h1, h2, fun _ => h2, fun r c => ?_⟩
  · rw [mv_copy h2] at h; exact h
  · rw [mv_copy h2]; exact h9 r c
theorem eqC_iff {n : Nat} {a : Nat → Nat} {f g : Nat} : eqC n a f g = true ↔ ∀ k, k < n → mv n a k f = mv n a k g := by unfold eqC; exact decide_eq_true_iff
theorem coJ_s {n : Nat} {m : Nat → Nat → Nat} {i q : Nat} {aq : Nat → Nat} {u : Option (Nat × Nat)} (hi : i < 5) (h : coJ n m i q aq true) (hu : msP q aq u) : coJ n m (i + 1) (msN q u) (msA q aq u) u.isSome := by
  obtain ⟨h1, -, h3, h4, h5, h6⟩ := h
  have h5 := h5 rfl
  have hp : 9 * 2 ^ i ≤ 9 * 2 ^ (i + 1) := Nat.mul_le_mul_left 9 (Nat.pow_le_pow_right (by decide) (by omega))
  cases u with
  | none =>
    have hne : noEq q (mv q aq) := fun x hx l hl hq => by
      have := hu x hx l hl
      rw [eqC_iff.mpr hq] at this
      cases this
    refine ⟨fun k hk => h1 k ?_, fun _ => hne, h3, h4, (fun h => by cases h), fun r c => Nat.le_trans (h6 r c) hp⟩
    have : k = q := by
      have hk : coS (5 - (i + 1)) q (mv q aq) k := hk
      generalize 5 - (i + 1) = f at hk
      cases f with
      | zero => exact hk.2
      | succ f =>
        rcases hk with hk | ⟨l, x, hl, hx, he, -⟩
        · exact hk.2
        · exact absurd he (hne x hx l hl)
    rw [this]
    exact coS_end hne _
  | some w =>
    obtain ⟨hl, hx, he⟩ := hu
    have he := eqC_iff.mp he
    have hq2 : 2 ≤ q := by omega
    have ers : rs (q - 1) = q - 1 := rs_id (by omega) (by omega)
    have emv : mv (msN q (some w)) (msA q aq (some w)) = skM q w.2 (mgM w.1 w.2 (mv q aq)) := by
      show mv (rs (q - 1)) (mgF q w.1 w.2 aq) = _
      rw [ers]
      exact mv_mg h4 aq (by omega) (by omega)
    have emn : msN q (some w) = q - 1 := ers
    refine ⟨fun k hk => h1 k ?_, (fun h => by cases h), by rw [emn]; omega, by rw [emn]; omega, (fun _ => by rw [emn]; omega), fun r c => ?_⟩
    · rw [emv, emn] at hk
      rw [show 5 - i = (5 - (i + 1)) + 1 by omega]
      exact Or.inr ⟨w.1, w.2, hl, hx, he, hk⟩
    · rw [emv, skM]
      split
      · unfold mgM
        have hp2 : 9 * 2 ^ (i + 1) = 9 * 2 ^ i + 9 * 2 ^ i := by rw [Nat.pow_succ]; omega
        have a1 := h6 w.1 (sk w.2 c)
        have a2 := h6 w.2 (sk w.2 c)
        have a3 := h6 (sk w.2 r) (sk w.2 c)
        split <;> omega
      · omega
theorem coJ_b {n : Nat} {m : Nat → Nat → Nat} {i q : Nat} {aq : Nat → Nat} {b : Bool} (hi : i ≤ 5) (h : coJ n m i q aq b) : ∀ r c, mv q aq r c < 2147483648 := fun r c => by
  have hp : 9 * 2 ^ i ≤ 9 * 2 ^ 5 := Nat.mul_le_mul_left 9 (Nat.pow_le_pow_right (by decide) hi)
  have := h.2.2.2.2.2 r c
  have e : 9 * 2 ^ 5 = 288 := by decide
  omega
theorem coJ_e {n : Nat} {m : Nat → Nat → Nat} {i q : Nat} {aq : Nat → Nat} {b : Bool} (h : coJ n m i q aq b) (he : i = 5 ∨ b = false) : coS 5 n m q := by
  refine h.1 q (coS_end ?_ _)
  rcases he with he | he
  · cases b with
    | false => exact h.2.1 rfl
    | true => exact noEq_1 (by have := h.2.2.2.2.1 rfl; omega)
  · exact h.2.1 he
noncomputable def dfm (p g c : Bool) : Nat := (if p = true then 1 else 0) + (if g = true then 2 else 0) + (if c = true then 4 else 0)
theorem trJ_k {e n nq i : Nat} {aq : Nat → Nat} {x : AM} (hb : e.testBit i = true) (h : trR e (i + 1) (nq, mv nq aq) = x ∧ nq + cbB e (i + 1) = i + 1 + cbB e n ∧ nq ≤ n ∧ ∀ r c, mv nq aq r c ≤ 9) : trR e i (nq, mv nq aq) = x ∧ nq + cbB e i = i + cbB e n ∧ nq ≤ n ∧ ∀ r c, mv nq aq r c ≤ 9 := by
  obtain ⟨h1, h2, h3, h4⟩ := h
  rw [cbB_s, if_pos hb] at h2
  rw [trR, if_pos hb] at h1
  exact ⟨h1, by omega, h3, h4⟩
theorem trJ_r {e n nq i : Nat} {aq : Nat → Nat} {x : AM} (hb : e.testBit i = false) (h : trR e (i + 1) (nq, mv nq aq) = x ∧ nq + cbB e (i + 1) = i + 1 + cbB e n ∧ nq ≤ n ∧ ∀ r c, mv nq aq r c ≤ 9) (hq : 2 ≤ nq) (hq6 : nq ≤ 6) : trR e i (rs (nq - 1), mv (rs (nq - 1)) (rmF nq i aq)) = x ∧ rs (nq - 1) + cbB e i = i + cbB e n ∧ rs (nq - 1) ≤ n ∧ ∀ r c, mv (rs (nq - 1)) (rmF nq i aq) r c ≤ 9 := by
  obtain ⟨h1, h2, h3, h4⟩ := h
  have ers : rs (nq - 1) = nq - 1 := rs_id (by omega) (by omega)
  rw [cbB_s, if_neg (by rw [hb]; decide)] at h2
  rw [trR, if_neg (by rw [hb]; decide)] at h1
  rw [ers, mv_rm hq6]
  refine ⟨h1, by omega, by omega, fun r c => ?_⟩
  unfold skM
  split
  · exact h4 _ _
  · omega
theorem spS_no (b : Bool) {n : Nat} {a : Nat → Nat} {n1 : Nat} {a1 : Nat → Nat} {nw ct : Nat} {hn : Nat → Nat} {ha : Nat → Nat → Nat} {sh : Nat → Nat} {p : Int32} (hI : BI n a n1 a1 nw ct hn ha sh) (hp : hasI n p = false) (u : SC) : spP (spSplit b (asB (n, a, n1, a1, nw, ct, hn, ha, sh)) p) (-1000001) ((n, a, n1, a1, nw, ct, hn, ha, sh), u) := by
  have e : spSplit b (asB (n, a, n1, a1, nw, ct, hn, ha, sh)) p = (-1000001, asB (n, a, n1, a1, nw, ct, hn, ha, sh)) := by
    show spSplitC b n (mv n a) (amB n1 a1) (hiB nw ct hn ha) sh p = _
    unfold spSplitC
    rw [if_neg (by rw [hp]; decide)]
    rfl
  rw [e]
  exact ⟨rfl, rfl, hI⟩
theorem spS_np (b : Bool) {n : Nat} {a : Nat → Nat} {n1 : Nat} {a1 : Nat → Nat} {nw ct : Nat} {hn : Nat → Nat} {ha : Nat → Nat → Nat} {sh a2 : Nat → Nat} {u : SC} {x i : Nat} (hI : BI n a n1 a1 nw ct hn ha sh) (hp : hasI n (nI x) = true) (hx : (nI x).toNatClampNeg = x) (hld : mv n (ldF b n a a2) = tM b (mv n a)) (hi : i < n) (h : mv n (ldF b n a a2) x i < sh i) : spP (spSplit b (asB (n, a, n1, a1, nw, ct, hn, ha, sh)) (nI x)) (-1000002) ((n, a, n1, a1, nw, ct, hn, ha, sh), u) := by
  have e : spSplit b (asB (n, a, n1, a1, nw, ct, hn, ha, sh)) (nI x) = (-1000002, asB (n, a, n1, a1, nw, ct, hn, ha, sh)) := by
    show spSplitC b n (mv n a) (amB n1 a1) (hiB nw ct hn ha) sh (nI x) = _
    unfold spSplitC
    rw [if_pos hp, if_neg (fun q => by have := q i hi; rw [hx, ← hld] at this; omega)]
    rfl
  rw [e]
  exact ⟨rfl, rfl, hI⟩
theorem spS_lr (b : Bool) {n : Nat} {a : Nat → Nat} {n1 : Nat} {a1 : Nat → Nat} {nw ct : Nat} {hn : Nat → Nat} {ha : Nat → Nat → Nat} {sh a2 : Nat → Nat} {u : SC} {x : Nat} (hI : BI n a n1 a1 nw ct hn ha sh) (hp : hasI n (nI x) = true) (hx : (nI x).toNatClampNeg = x) (hld : mv n (ldF b n a a2) = tM b (mv n a)) (h : ∀ j, j < n → sh j ≤ mv n (ldF b n a a2) x j) (h6 : n = 6) : spP (spSplit b (asB (n, a, n1, a1, nw, ct, hn, ha, sh)) (nI x)) (-1000003) ((n, a, n1, a1, nw, ct, hn, ha, sh), u) := by
  have e : spSplit b (asB (n, a, n1, a1, nw, ct, hn, ha, sh)) (nI x) = (-1000003, asB (n, a, n1, a1, nw, ct, hn, ha, sh)) := by
    show spSplitC b n (mv n a) (amB n1 a1) (hiB nw ct hn ha) sh (nI x) = _
    unfold spSplitC
    rw [if_pos hp, if_pos (fun j hj => by rw [hx, ← hld]; exact h j hj), if_pos h6]
    rfl
  rw [e]
  exact ⟨rfl, rfl, hI⟩
theorem tM_le {b : Bool} {m : Nat → Nat → Nat} {k : Nat} (h : ∀ i j, m i j ≤ k) (i j : Nat) : tM b m i j ≤ k := by unfold tM; split; exact h j i; exact h i j
theorem spM_le {n s k : Nat} {sh : Nat → Nat} {m : Nat → Nat → Nat} (h : ∀ i j, m i j ≤ k) (hs : ∀ x, sh x ≤ k) (i j : Nat) : spM n s sh m i j ≤ k := by
  unfold spM
  have h1 := h s j
  have h2 := hs j
  have h3 := h i j
  have h4 := h s s
  have h5 := hs s
  have h6 := h i s
  simp only
  split
  · split
    · omega
    · split <;> omega
  · split
    · split
      · omega
      · split <;> omega
    · omega
theorem spS_ok (b : Bool) {n : Nat} {a : Nat → Nat} {n1 : Nat} {a1 : Nat → Nat} {nw ct : Nat} {hn : Nat → Nat} {ha : Nat → Nat → Nat} {sh a2 : Nat → Nat} {x : Nat} (hI : BI n a n1 a1 nw ct hn ha sh) (hp : hasI n (nI x) = true) (hx : (nI x).toNatClampNeg = x) (hxn : x < n) (hld : mv n (ldF b n a a2) = tM b (mv n a)) (h : ∀ j, j < n → sh j ≤ mv n (ldF b n a a2) x j) (h6 : n ≠ 6) (u : SC) : spP (spSplit b (asB (n, a, n1, a1, nw, ct, hn, ha, sh)) (nI x)) (nI (n + 1)) ((n + 1, ldF b (n + 1) (splitF n x sh (ldF b n a a2)) a, n1, a1, (nw + 1) % 4, Nat.min (ct + 1) 4, rmN hn nw n n1, rmA ha nw n a n1 a1, sh), u) := by
  have hI0 := hI
  obtain ⟨⟨g1, g2⟩, ⟨g3, g4⟩, g9, g91, hnw, hct, hhn, hha, hsh⟩ := hI
  have hsp := mv_split (n := n) (s := x) (by omega) sh (ldF b n a a2) hxn
  have hv : mv (n + 1) (ldF b (n + 1) (splitF n x sh (ldF b n a a2)) a) = tM b (spM n x sh (tM b (mv n a))) := by rw [mv_ld b (by omega), hsp, hld]
  have e : spSplit b (asB (n, a, n1, a1, nw, ct, hn, ha, sh)) (nI x) = (nI (n + 1), ((n + 1, tM b (spM n x sh (tM b (mv n a)))), amB n1 a1, kpS (asB (n, a, n1, a1, nw, ct, hn, ha, sh)), sh)) := by
    show spSplitC b n (mv n a) (amB n1 a1) (hiB nw ct hn ha) sh (nI x) = _
    unfold spSplitC
    rw [if_pos hp, if_pos (fun j hj => by rw [hx, ← hld]; exact h j hj), if_neg h6, hx]
    rfl
  rw [e]
  refine ⟨rfl, ?_, ?_⟩
  · exact as_keep hI0 (by rw [amB, hv]) rfl
  · exact BI_rem hI0 (by omega) ⟨g3, g4⟩ (fun i j => by rw [hv]; exact tM_le (fun i j => spM_le (fun i j => tM_le g9 i j) hsh i j) i j) g91
theorem spT_no {n : Nat} {a : Nat → Nat} {n1 : Nat} {a1 : Nat → Nat} {nw ct : Nat} {hn : Nat → Nat} {ha : Nat → Nat → Nat} {sh : Nat → Nat} (hI : BI n a n1 a1 nw ct hn ha sh) (h0 : essV n (mv n a) = 0) (u : SC) : spP (spTrim (asB (n, a, n1, a1, nw, ct, hn, ha, sh))) (-1000002) ((n, a, n1, a1, nw, ct, hn, ha, sh), u) := by
  have e : spTrim (asB (n, a, n1, a1, nw, ct, hn, ha, sh)) = (-1000002, asB (n, a, n1, a1, nw, ct, hn, ha, sh)) := by
    show spTrimC n (mv n a) (amB n1 a1) (hiB nw ct hn ha) sh = _
    unfold spTrimC
    rw [if_pos h0]
    rfl
  rw [e]
  exact ⟨rfl, rfl, hI⟩
theorem spT_ok {n : Nat} {a : Nat → Nat} {n1 : Nat} {a1 : Nat → Nat} {nw ct : Nat} {hn : Nat → Nat} {ha : Nat → Nat → Nat} {sh : Nat → Nat} {nq : Nat} {aq : Nat → Nat} (hI : BI n a n1 a1 nw ct hn ha sh) (h0 : essV n (mv n a) ≠ 0) (he1 : 1 ≤ cbB (essV n (mv n a)) n) (hJ : trR (essV n (mv n a)) 0 (nq, mv nq aq) = trR (essV n (mv n a)) n (n, mv n a) ∧ nq + cbB (essV n (mv n a)) 0 = 0 + cbB (essV n (mv n a)) n ∧ nq ≤ n ∧ ∀ r c, mv nq aq r c ≤ 9) (u : SC) : spP (spTrim (asB (n, a, n1, a1, nw, ct, hn, ha, sh))) (nI (n - nq)) ((nq, aq, n1, a1, (nw + 1) % 4, Nat.min (ct + 1) 4, rmN hn nw n n1, rmA ha nw n a n1 a1, sh), u) := by
  have hI0 := hI
  obtain ⟨⟨g1, g2⟩, ⟨g3, g4⟩, g9, g91, hnw, hct, hhn, hha, hsh⟩ := hI
  obtain ⟨q1, q2, q3, q4⟩ := hJ
  have q1 : (nq, mv nq aq) = trR (essV n (mv n a)) n (n, mv n a) := q1
  have e0 : cbB (essV n (mv n a)) 0 = 0 := rfl
  have e : spTrim (asB (n, a, n1, a1, nw, ct, hn, ha, sh)) = (nI (n - nq), (amB nq aq, amB n1 a1, kpS (asB (n, a, n1, a1, nw, ct, hn, ha, sh)), sh)) := by
    show spTrimC n (mv n a) (amB n1 a1) (hiB nw ct hn ha) sh = _
    unfold spTrimC
    rw [if_neg h0, ← q1]
    rfl
  rw [e]
  exact ⟨rfl, as_keep hI0 rfl rfl, BI_rem hI0 (by omega) ⟨g3, g4⟩ q4 g91⟩
theorem spU_no {n : Nat} {a : Nat → Nat} {n1 : Nat} {a1 : Nat → Nat} {nw ct : Nat} {hn : Nat → Nat} {ha : Nat → Nat → Nat} {sh : Nat → Nat} (hI : BI n a n1 a1 nw ct hn ha sh) (h0 : ct = 0) (u : SC) : spP (spUndo (asB (n, a, n1, a1, nw, ct, hn, ha, sh))) (-1000002) ((n, a, n1, a1, nw, ct, hn, ha, sh), u) := by
  subst h0
  exact ⟨rfl, rfl, hI⟩
theorem spU_ok {n : Nat} {a : Nat → Nat} {n1 : Nat} {a1 : Nat → Nat} {nw ct : Nat} {hn : Nat → Nat} {ha : Nat → Nat → Nat} {sh : Nat → Nat} (hI : BI n a n1 a1 nw ct hn ha sh) (h0 : ct ≠ 0) (u : SC) : spP (spUndo (asB (n, a, n1, a1, nw, ct, hn, ha, sh))) (nI (ct - 1)) ((hn (2 * nw), copyF (hn (2 * nw)) (mv (hn (2 * nw)) (ha (2 * nw))) (hn (2 * nw)) a, hn (2 * nw + 1), copyF (hn (2 * nw + 1)) (mv (hn (2 * nw + 1)) (ha (2 * nw + 1))) (hn (2 * nw + 1)) a1, (nw + 4 - 1) % 4, ct - 1, hn, ha, sh), u) := by
  obtain ⟨⟨g1, g2⟩, ⟨g3, g4⟩, g9, g91, hnw, hct, hhn, hha, hsh⟩ := hI
  have u0 := hhn (2 * nw) (by omega)
  have u1 := hhn (2 * nw + 1) (by omega)
  have v0 := mv_copy u0.2 (ha (2 * nw)) a
  have v1 := mv_copy u1.2 (ha (2 * nw + 1)) a1
  have e : spUndo (asB (n, a, n1, a1, nw, ct, hn, ha, sh)) = (nI (ct - 1), (amB (hn (2 * nw)) (ha (2 * nw)), amB (hn (2 * nw + 1)) (ha (2 * nw + 1)), hiB ((nw + 4 - 1) % 4) (ct - 1) hn ha, sh)) := by
    have el : (asB (n, a, n1, a1, nw, ct, hn, ha, sh)).2.2.1 = (amB (hn (2 * nw)) (ha (2 * nw)), amB (hn (2 * nw + 1)) (ha (2 * nw + 1))) :: hiB ((nw + 4 - 1) % 4) (ct - 1) hn ha := hiB_und hnw hct (Nat.pos_of_ne_zero h0)
    have ln : (hiB ((nw + 4 - 1) % 4) (ct - 1) hn ha).length = ct - 1 := by rw [hiB, List.length_map, List.length_range]
    unfold spUndo
    rw [el]
    show (nI (hiB ((nw + 4 - 1) % 4) (ct - 1) hn ha).length, _) = _
    rw [ln]
    rfl
  rw [e]
  refine ⟨rfl, ?_, ⟨u0, u1, fun i j => ?_, fun i j => ?_, Nat.mod_lt _ (by decide), by show ct - 1 ≤ 4; omega, hhn, hha, hsh⟩⟩
  · show (amB _ _, amB _ _, _, _) = _
    rw [am_copy u0.2, am_copy u1.2]
  · show mv (hn (2 * nw)) (copyF (hn (2 * nw)) (mv (hn (2 * nw)) (ha (2 * nw))) (hn (2 * nw)) a) i j ≤ 9
    rw [v0]; exact hha _ (by omega) i j
  · show mv (hn (2 * nw + 1)) (copyF (hn (2 * nw + 1)) (mv (hn (2 * nw + 1)) (ha (2 * nw + 1))) (hn (2 * nw + 1)) a1) i j ≤ 9
    rw [v1]; exact hha _ (by omega) i j
theorem spM_no (b : Bool) {n : Nat} {a : Nat → Nat} {n1 : Nat} {a1 : Nat → Nat} {nw ct : Nat} {hn : Nat → Nat} {ha : Nat → Nat → Nat} {sh : Nat → Nat} {p q : Int32} (hI : BI n a n1 a1 nw ct hn ha sh) (hp : ¬ (hasI n p = true ∧ hasI n q = true ∧ p ≠ q)) (u : SC) : spP (spMerge b (asB (n, a, n1, a1, nw, ct, hn, ha, sh)) p q) (-1000001) ((n, a, n1, a1, nw, ct, hn, ha, sh), u) := by
  have e : spMerge b (asB (n, a, n1, a1, nw, ct, hn, ha, sh)) p q = (-1000001, (asB (n, a, n1, a1, nw, ct, hn, ha, sh))) := by
    show spMergeC b n (mv n a) (amB n1 a1) (hiB nw ct hn ha) sh p q = _
    unfold spMergeC
    rw [if_neg hp]
    rfl
  rw [e]
  exact ⟨rfl, rfl, hI⟩
theorem spM_np (b : Bool) {n : Nat} {a : Nat → Nat} {n1 : Nat} {a1 : Nat → Nat} {nw ct : Nat} {hn : Nat → Nat} {ha : Nat → Nat → Nat} {sh : Nat → Nat} {x y : Nat} {a2 : Nat → Nat} (hI : BI n a n1 a1 nw ct hn ha sh) (hp : hasI n (nI x) = true) (hq : hasI n (nI y) = true) (hne : nI x ≠ nI y) (hx : (nI x).toNatClampNeg = x) (hy : (nI y).toNatClampNeg = y) (hld : mv n (ldF b n a a2) = tM b (mv n a)) (h : eqC n (ldF b n a a2) x y = false) (u : SC) : spP (spMerge b (asB (n, a, n1, a1, nw, ct, hn, ha, sh)) (nI x) (nI y)) (-1000002) ((n, a, n1, a1, nw, ct, hn, ha, sh), u) := by
  have e : spMerge b (asB (n, a, n1, a1, nw, ct, hn, ha, sh)) (nI x) (nI y) = (-1000002, (asB (n, a, n1, a1, nw, ct, hn, ha, sh))) := by
    show spMergeC b n (mv n a) (amB n1 a1) (hiB nw ct hn ha) sh (nI x) (nI y) = _
    unfold spMergeC
    rw [if_pos ⟨hp, hq, hne⟩, if_neg (fun w => by
      rw [eqC_iff.mpr (fun k hk => by have := w k hk; rw [hx, hy, ← hld] at this; exact this)] at h
      cases h)]
    rfl
  rw [e]
  exact ⟨rfl, rfl, hI⟩
theorem mg_view (b : Bool) {n : Nat} {a : Nat → Nat} {x y : Nat} {a2 : Nat → Nat} (h2 : n ≤ 6) (hx : x < n) (hy : y < n) (hne : x ≠ y) (hld : mv n (ldF b n a a2) = tM b (mv n a)) : mv (n - 1) (mgF n (Nat.min x y) (Nat.max x y) (ldF b n a a2)) = spMergeM b n (Nat.min x y) (Nat.max x y) (mv n a) := by
  have h1 : Nat.min x y = min x y := rfl
  have h3 : Nat.max x y = max x y := rfl
  rw [mv_mg h2 _ (by omega) (by omega), hld]
  rfl
theorem spM_lr (b : Bool) {n : Nat} {a : Nat → Nat} {n1 : Nat} {a1 : Nat → Nat} {nw ct : Nat} {hn : Nat → Nat} {ha : Nat → Nat → Nat} {sh : Nat → Nat} {x y : Nat} {a2 : Nat → Nat} (hI : BI n a n1 a1 nw ct hn ha sh) (hp : hasI n (nI x) = true) (hq : hasI n (nI y) = true) (hne : nI x ≠ nI y) (hx : (nI x).toNatClampNeg = x) (hy : (nI y).toNatClampNeg = y) (hxn : x < n) (hyn : y < n) (hld : mv n (ldF b n a a2) = tM b (mv n a)) (h : eqC n (ldF b n a a2) x y = true) (hg : 9 < gcF (n - 1) (mv (n - 1) (mgF n (Nat.min x y) (Nat.max x y) (ldF b n a a2))) (n - 1)) (u : SC) : spP (spMerge b (asB (n, a, n1, a1, nw, ct, hn, ha, sh)) (nI x) (nI y)) (-1000003) ((n, a, n1, a1, nw, ct, hn, ha, sh), u) := by
  have e : spMerge b (asB (n, a, n1, a1, nw, ct, hn, ha, sh)) (nI x) (nI y) = (-1000003, (asB (n, a, n1, a1, nw, ct, hn, ha, sh))) := by
    show spMergeC b n (mv n a) (amB n1 a1) (hiB nw ct hn ha) sh (nI x) (nI y) = _
    unfold spMergeC
    rw [if_pos ⟨hp, hq, hne⟩, if_pos (fun k hk => by rw [hx, hy, ← hld]; exact eqC_iff.mp h k hk), hx, hy, if_neg (fun w => by
      rw [mg_view b hI.1.2 hxn hyn (fun q => hne (by rw [q])) hld] at hg
      have := gcF_le (n - 1) _ 9 (n - 1) (fun i j hi hj => w i hi j hj)
      omega)]
    rfl
  rw [e]
  exact ⟨rfl, rfl, hI⟩
theorem spM_ok (b : Bool) {n : Nat} {a : Nat → Nat} {n1 : Nat} {a1 : Nat → Nat} {nw ct : Nat} {hn : Nat → Nat} {ha : Nat → Nat → Nat} {sh : Nat → Nat} {x y : Nat} {a2 : Nat → Nat} (hI : BI n a n1 a1 nw ct hn ha sh) (hp : hasI n (nI x) = true) (hq : hasI n (nI y) = true) (hne : nI x ≠ nI y) (hx : (nI x).toNatClampNeg = x) (hy : (nI y).toNatClampNeg = y) (hxn : x < n) (hyn : y < n) (hld : mv n (ldF b n a a2) = tM b (mv n a)) (h : eqC n (ldF b n a a2) x y = true) (hg : gcF (n - 1) (mv (n - 1) (mgF n (Nat.min x y) (Nat.max x y) (ldF b n a a2))) (n - 1) ≤ 9) (u : SC) : spP (spMerge b (asB (n, a, n1, a1, nw, ct, hn, ha, sh)) (nI x) (nI y)) (nI (n - 1)) ((n - 1, ldF b (n - 1) (mgF n (Nat.min x y) (Nat.max x y) (ldF b n a a2)) a, n1, a1, (nw + 1) % 4, Nat.min (ct + 1) 4, rmN hn nw n n1, rmA ha nw n a n1 a1, sh), u) := by
  have hI0 := hI
  obtain ⟨⟨g1, g2⟩, ⟨g3, g4⟩, g9, g91, hnw, hct, hhn, hha, hsh⟩ := hI
  have hxy : x ≠ y := fun q => hne (by rw [q])
  have hv := mg_view b g2 hxn hyn hxy hld
  rw [hv] at hg
  have hall : ∀ i, i < n - 1 → ∀ j, j < n - 1 → spMergeM b n (Nat.min x y) (Nat.max x y) (mv n a) i j ≤ 9 := fun i hi j hj => Nat.le_trans (gcF_ge (n - 1) _ (n - 1) i j hi hj) hg
  have hall2 : ∀ i j, spMergeM b n (Nat.min x y) (Nat.max x y) (mv n a) i j ≤ 9 := fun i j => by
    by_cases q : i < n - 1 ∧ j < n - 1
    · exact hall i q.1 j q.2
    · unfold spMergeM skM; rw [if_neg q]; omega
  have hv2 : mv (n - 1) (ldF b (n - 1) (mgF n (Nat.min x y) (Nat.max x y) (ldF b n a a2)) a) = tM b (spMergeM b n (Nat.min x y) (Nat.max x y) (mv n a)) := by rw [mv_ld b (by omega), hv]
  have e : spMerge b (asB (n, a, n1, a1, nw, ct, hn, ha, sh)) (nI x) (nI y) = (nI (n - 1), ((n - 1, tM b (spMergeM b n (Nat.min x y) (Nat.max x y) (mv n a))), amB n1 a1, kpS (asB (n, a, n1, a1, nw, ct, hn, ha, sh)), sh)) := by
    show spMergeC b n (mv n a) (amB n1 a1) (hiB nw ct hn ha) sh (nI x) (nI y) = _
    unfold spMergeC
    rw [if_pos ⟨hp, hq, hne⟩, if_pos (fun k hk => by rw [hx, hy, ← hld]; exact eqC_iff.mp h k hk), hx, hy, if_pos hall]
    rfl
  rw [e]
  refine ⟨rfl, ?_, ?_⟩
  · exact as_keep hI0 (by rw [amB, hv2]) rfl
  · exact BI_rem hI0 (by omega) ⟨g3, g4⟩ (fun i j => by rw [hv2]; exact tM_le hall2 i j) g91
