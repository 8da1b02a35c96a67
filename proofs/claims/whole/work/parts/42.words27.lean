/-! words of the twenty-seventh part: the reference's list of factors, and what differs -/
def fL (f : Nat → Nat) (o p k x : Nat) : Nat := if x < k - p then 0 else f (o + 1 + (x - (k - p)))
theorem gf_lt {n : Nat} {m : Nat → Nat → Nat} (hn : n ≤ 6) (hm : ∀ i j, m i j ≤ 9) (k : Nat) : gfV n m k < 4611686018427387904 := by
  unfold gfV
  split
  · decide
  · exact Nat.lt_of_le_of_lt (Nat.div_le_self _ _) (cdV_lt hn hm k)
theorem fL_lt {f : Nat → Nat} (hF : ∀ k, f k < 4611686018427387904) (o p k x : Nat) : fL f o p k x < 4611686018427387904 := by
  unfold fL
  split
  · decide
  · exact hF _
/-- an insertion under way: the place t is free, what is greater stands behind it -/
def fJ (f : Nat → Nat) (o p k pl t : Nat) (l2 li : Nat → Int64) : Prop := t ≤ k - o ∧ (∀ x, x < t → l2 (pl + x) = lN (fL f o p k x)) ∧ (∀ x, t < x → x ≤ k - o → l2 (pl + x) = lN (fL f o p k (x - 1))) ∧ (∀ x, t ≤ x → x < k - o → f (k + 1) < fL f o p k x) ∧ ∀ y, y < pl → l2 y = li y
def fO (f : Nat → Nat) (o p k pl : Nat) (l1 li : Nat → Int64) : Prop := (∀ x, x < k - o → l1 (pl + x) = lN (fL f o p k x)) ∧ ∀ y, y < pl → l1 y = li y
theorem fO_0 (f : Nat → Nat) (o p pl : Nat) (li : Nat → Int64) : fO f o p 0 pl li li := ⟨fun x hx => absurd hx (by omega), fun _ _ => rfl⟩
theorem fO_1 {f : Nat → Nat} {o p k pl : Nat} {l1 li : Nat → Int64} (h : fO f o p k pl l1 li) (hk : k + 1 ≤ o) : fO f o p (k + 1) pl l1 li := ⟨fun x hx => absurd hx (by omega), h.2⟩
theorem fJ_0 {f : Nat → Nat} {o p k pl : Nat} {l1 li : Nat → Int64} (h : fO f o p k pl l1 li) : fJ f o p k pl (k - o) l1 li := ⟨Nat.le_refl _, h.1, fun x h1 h2 => absurd h1 (by omega), fun x h1 h2 => absurd h1 (by omega), h.2⟩
theorem fJ_s {f : Nat → Nat} {o p k pl t : Nat} {l2 li : Nat → Int64} (h : fJ f o p k pl t l2 li) (ht : 0 < t) (hv : f (k + 1) < fL f o p k (t - 1)) : fJ f o p k pl (t - 1) (vp_updL l2 (pl + t) (l2 (pl + t - 1))) li := by
  obtain ⟨h1, h2, h3, h4, h5⟩ := h
  refine ⟨by omega, fun x hx => ?_, fun x hx hx2 => ?_, fun x hx hx2 => ?_, fun y hy => ?_⟩
  · rw [pk_uLn (by omega)]; exact h2 x (by omega)
  · by_cases e : x = t
    · subst e
      rw [pk_uLs, show pl + x - 1 = pl + (x - 1) by omega]
      exact h2 (x - 1) (by omega)
    · rw [pk_uLn (by omega)]; exact h3 x (by omega) hx2
  · by_cases e : x = t - 1
    · rw [e]; exact hv
    · exact h4 x (by omega) hx2
  · rw [pk_uLn (by omega)]; exact h5 y hy
theorem fJ_e {f : Nat → Nat} {n o p k pl t : Nat} {l2 li : Nat → Int64} (hf : fsP f n o p) (hk : k + 1 ≤ n) (h : fJ f o p k pl t l2 li) (hne : f (k + 1) ≠ 1) (he : t = 0 ∨ fL f o p k (t - 1) ≤ f (k + 1)) : fO f o p (k + 1) pl (vp_updL l2 (pl + t) (lN (f (k + 1)))) li := by
  obtain ⟨f1, f2, f3, f4, f5, f6⟩ := hf
  obtain ⟨h1, h2, h3, h4, h5⟩ := h
  have ho : o < k + 1 := by
    apply Classical.byContradiction
    intro q
    exact hne (f3 (k + 1) (by omega) (by omega))
  refine ⟨fun x hx => ?_, fun y hy => by rw [pk_uLn (by omega)]; exact h5 y hy⟩
  by_cases hp : k + 1 ≤ p
  · -- a factor above 1: it goes to the end
    have hz : k - p = 0 := by omega
    have hz1 : k + 1 - p = 0 := by omega
    have ht : t = k - o := by
      apply Classical.byContradiction
      intro q
      have hg := h4 t (Nat.le_refl t) (by omega)
      unfold fL at hg
      rw [hz, if_neg (by omega)] at hg
      have := f6 (o + 1 + (t - 0)) (k + 1) (by omega) (by omega) hp
      omega
    have e1 : ∀ y, fL f o p (k + 1) y = f (o + 1 + y) := fun y => by unfold fL; rw [hz1, if_neg (by omega)]; rfl
    have e2 : ∀ y, fL f o p k y = f (o + 1 + y) := fun y => by unfold fL; rw [hz, if_neg (by omega)]; rfl
    rw [e1]
    by_cases e : x = t
    · rw [e, pk_uLs, ht, show o + 1 + (k - o) = k + 1 by omega]
    · rw [pk_uLn (by omega), h2 x (by omega), e2]
  · -- a zero: it goes behind the zeros
    have hv : f (k + 1) = 0 := f5 (k + 1) (by omega) hk
    have hz : ∀ y, y < k - p → fL f o p k y = 0 := fun y hy => by unfold fL; rw [if_pos hy]
    have hnz : ∀ y, k - p ≤ y → y < k - o → 2 ≤ fL f o p k y := fun y hy hy2 => by
      unfold fL; rw [if_neg (by omega)]
      exact f4 _ (by omega) (by omega)
    have ht : t = k - p := by
      rcases Nat.lt_trichotomy t (k - p) with q | q | q
      · have := h4 t (Nat.le_refl t) (by omega)
        rw [hz t q] at this
        omega
      · exact q
      · exfalso
        rcases he with e | e
        · omega
        · have := hnz (t - 1) (by omega) (by omega)
          omega
    by_cases e : x = t
    · rw [e, pk_uLs, hv]
      unfold fL
      rw [if_pos (by omega)]
    · rw [pk_uLn (by omega)]
      by_cases q : x < t
      · rw [h2 x q, hz x (by omega)]
        unfold fL
        rw [if_pos (by omega)]
      · rw [h3 x (by omega) (by omega)]
        unfold fL
        rw [if_neg (by omega), if_neg (by omega), show x - 1 - (k - p) = x - (k + 1 - p) by omega]
/-! what differs -/
def pdK (n : Nat) (m : Nat → Nat → Nat) (n1 : Nat) (m1 : Nat → Nat → Nat) (k : Nat) : Bool := it (fun k b => b || !(decide (zcV n m k = zcV n1 m1 k))) k false
theorem pd_s (n : Nat) (m : Nat → Nat → Nat) (n1 : Nat) (m1 : Nat → Nat → Nat) (k : Nat) : pdK n m n1 m1 (k + 1) = (pdK n m n1 m1 k || !(decide (zcV n m k = zcV n1 m1 k))) := rfl
theorem pd_t1 {n : Nat} {m : Nat → Nat → Nat} {n1 : Nat} {m1 : Nat → Nat → Nat} {k : Nat} (h : pdK n m n1 m1 k = true) : pdK n m n1 m1 (k + 1) = true := by rw [pd_s, h]; rfl
theorem pd_t2 {n : Nat} {m : Nat → Nat → Nat} {n1 : Nat} {m1 : Nat → Nat → Nat} {k : Nat} (h : ¬ zcV n m k = zcV n1 m1 k) : pdK n m n1 m1 (k + 1) = true := by rw [pd_s, decide_eq_false h]; exact Bool.or_true _
theorem pd_f {n : Nat} {m : Nat → Nat → Nat} {n1 : Nat} {m1 : Nat → Nat → Nat} {k : Nat} (h : pdK n m n1 m1 k = false) (e : zcV n m k = zcV n1 m1 k) : pdK n m n1 m1 (k + 1) = false := by rw [pd_s, h, decide_eq_true e]; rfl
theorem pd_iff (n : Nat) (m : Nat → Nat → Nat) (n1 : Nat) (m1 : Nat → Nat → Nat) : ∀ k, pdK n m n1 m1 k = false ↔ ∀ j, j < k → zcV n m j = zcV n1 m1 j
  | 0 => ⟨fun _ j h => absurd h (Nat.not_lt_zero j), fun _ => rfl⟩
  | k + 1 => by
    rw [pd_s, Bool.or_eq_false_iff, pd_iff n m n1 m1 k, Bool.not_eq_false', decide_eq_true_eq]
    constructor
    · rintro ⟨h1, h2⟩ j hj
      by_cases e : j = k
      · rw [e]; exact h2
      · exact h1 j (by omega)
    · exact fun h => ⟨fun j hj => h j (by omega), h k (by omega)⟩
theorem zc_0 {nw : Nat → Nat} {b : Nat} (h6 : nw b ≤ 6) : zcV (nw b) (rvV nw b) 0 = 1 := by
  have hp := p2_le h6
  have hp0 := Nat.two_pow_pos (nw b)
  rw [← cf_eq h6 (fun _ => 0), cf_0 _ (by omega)]
theorem pd_eq {nw : Nat → Nat} (h0 : nw 0 ≤ 6) (h37 : nw 37 ≤ 6) : pdV (nw 0) (rvV nw 0) (nw 37) (rvV nw 37) = pdK (nw 0) (rvV nw 0) (nw 37) (rvV nw 37) 7 := by
  unfold pdV
  by_cases h : ∀ j, j < 6 → zcV (nw 0) (rvV nw 0) (j + 1) = zcV (nw 37) (rvV nw 37) (j + 1)
  · rw [noB_t h, eq_comm, pd_iff]
    intro j hj
    cases j with
    | zero => rw [zc_0 h0, zc_0 h37]
    | succ j => exact h j (by omega)
  · rw [noB_f h]
    have : ¬ pdK (nw 0) (rvV nw 0) (nw 37) (rvV nw 37) 7 = false := fun q => h (fun j hj => (pd_iff _ _ _ _ 7).mp q (j + 1) (by omega))
    simpa using this
def gpK (L L' : Nat → Nat) (c : Bool) (k : Nat) : Bool := it (fun k b => b || !(decide (L k = L' k))) k c
theorem gp_s (L L' : Nat → Nat) (c : Bool) (k : Nat) : gpK L L' c (k + 1) = (gpK L L' c k || !(decide (L k = L' k))) := rfl
theorem gp_t1 {L L' : Nat → Nat} {c : Bool} {k : Nat} (h : gpK L L' c k = true) : gpK L L' c (k + 1) = true := by rw [gp_s, h]; rfl
theorem gp_t2 {L L' : Nat → Nat} {c : Bool} {k : Nat} (h : L k ≠ L' k) : gpK L L' c (k + 1) = true := by rw [gp_s, decide_eq_false h]; exact Bool.or_true _
theorem gp_f {L L' : Nat → Nat} {c : Bool} {k : Nat} (h : gpK L L' c k = false) (e : L k = L' k) : gpK L L' c (k + 1) = false := by rw [gp_s, h, decide_eq_true e]; rfl
theorem gp_iff (L L' : Nat → Nat) (c : Bool) : ∀ k, gpK L L' c k = false ↔ c = false ∧ ∀ x, x < k → L x = L' x
  | 0 => ⟨fun h => ⟨h, fun x hx => absurd hx (Nat.not_lt_zero x)⟩, fun h => h.1⟩
  | k + 1 => by
    rw [gp_s, Bool.or_eq_false_iff, gp_iff L L' c k, Bool.not_eq_false', decide_eq_true_eq]
    constructor
    · rintro ⟨⟨h1, h2⟩, h3⟩
      refine ⟨h1, fun x hx => ?_⟩
      by_cases e : x = k
      · rw [e]; exact h3
      · exact h2 x (by omega)
    · exact fun h => ⟨⟨h.1, fun x hx => h.2 x (by omega)⟩, h.2 k (by omega)⟩
/-- the lists are equal just when the factors are, from the last one down -/
theorem fs_last {f f' : Nat → Nat} {n n' o o' p p' : Nat} (hf : fsP f n o p) (hf' : fsP f' n' o' p') (hn : n ≤ 6) (hn' : n' ≤ 6) : (n - o = n' - o' ∧ ∀ x, x < n - o → fL f o p n x = fL f' o' p' n' x) ↔ ∀ b, b < 6 → (if b < n then f (n - b) else 1) = (if b < n' then f' (n' - b) else 1) := by
  obtain ⟨f1, f2, f3, f4, f5, f6⟩ := hf
  obtain ⟨g1, g2, g3, g4, g5, g6⟩ := hf'
  -- what stands at b from the last
  have hF : ∀ b, (b < n - p → (if b < n then f (n - b) else 1) = 0) ∧ (n - p ≤ b → b < n - o → 2 ≤ (if b < n then f (n - b) else 1)) ∧ (n - o ≤ b → (if b < n then f (n - b) else 1) = 1) := fun b => by
    refine ⟨fun h => ?_, fun h1 h2 => ?_, fun h => ?_⟩
    · rw [if_pos (by omega)]; exact f5 _ (by omega) (by omega)
    · rw [if_pos (by omega)]; exact f4 _ (by omega) (by omega)
    · by_cases q : b < n
      · rw [if_pos q]; exact f3 _ (by omega) (by omega)
      · rw [if_neg q]
  have hG : ∀ b, (b < n' - p' → (if b < n' then f' (n' - b) else 1) = 0) ∧ (n' - p' ≤ b → b < n' - o' → 2 ≤ (if b < n' then f' (n' - b) else 1)) ∧ (n' - o' ≤ b → (if b < n' then f' (n' - b) else 1) = 1) := fun b => by
    refine ⟨fun h => ?_, fun h1 h2 => ?_, fun h => ?_⟩
    · rw [if_pos (by omega)]; exact g5 _ (by omega) (by omega)
    · rw [if_pos (by omega)]; exact g4 _ (by omega) (by omega)
    · by_cases q : b < n'
      · rw [if_pos q]; exact g3 _ (by omega) (by omega)
      · rw [if_neg q]
  have lF : ∀ x, x < n - o → (x < n - p → fL f o p n x = 0) ∧ (n - p ≤ x → fL f o p n x = f (o + 1 + (x - (n - p))) ∧ 2 ≤ fL f o p n x) := fun x hx => by
    unfold fL
    refine ⟨fun h => if_pos h, fun h => ?_⟩
    rw [if_neg (by omega)]
    exact ⟨rfl, f4 _ (by omega) (by omega)⟩
  have lG : ∀ x, x < n' - o' → (x < n' - p' → fL f' o' p' n' x = 0) ∧ (n' - p' ≤ x → fL f' o' p' n' x = f' (o' + 1 + (x - (n' - p'))) ∧ 2 ≤ fL f' o' p' n' x) := fun x hx => by
    unfold fL
    refine ⟨fun h => if_pos h, fun h => ?_⟩
    rw [if_neg (by omega)]
    exact ⟨rfl, g4 _ (by omega) (by omega)⟩
  constructor
  · rintro ⟨hc, hL⟩ b hb
    have hz : n - p = n' - p' := by
      rcases Nat.lt_trichotomy (n - p) (n' - p') with q | q | q
      · have a1 := (lG (n - p) (by omega)).1 q
        have a2 := ((lF (n - p) (by omega)).2 (Nat.le_refl _)).2
        have := hL (n - p) (by omega)
        omega
      · exact q
      · have a1 := (lF (n' - p') (by omega)).1 q
        have a2 := ((lG (n' - p') (by omega)).2 (Nat.le_refl _)).2
        have := hL (n' - p') (by omega)
        omega
    by_cases q1 : b < n - p
    · rw [(hF b).1 q1, (hG b).1 (by omega)]
    · by_cases q2 : b < n - o
      · have h1 := hL (n - o - 1 - b + (n - p)) (by omega)
        rw [((lF _ (by omega)).2 (by omega)).1, ((lG _ (by omega)).2 (by omega)).1] at h1
        rw [if_pos (by omega), if_pos (by omega)]
        rw [show o + 1 + (n - o - 1 - b + (n - p) - (n - p)) = n - b by omega, show o' + 1 + (n - o - 1 - b + (n - p) - (n' - p')) = n' - b by omega] at h1
        exact h1
      · rw [(hF b).2.2 (by omega), (hG b).2.2 (by omega)]
  · intro h
    have hz : n - p = n' - p' := by
      rcases Nat.lt_trichotomy (n - p) (n' - p') with q | q | q
      · have a1 := (hG (n - p)).1 q
        have := h (n - p) (by omega)
        rw [a1] at this
        by_cases e : n - p < n - o
        · have := (hF (n - p)).2.1 (Nat.le_refl _) e; omega
        · have := (hF (n - p)).2.2 (by omega); omega
      · exact q
      · have a1 := (hF (n' - p')).1 q
        have := h (n' - p') (by omega)
        rw [a1] at this
        by_cases e : n' - p' < n' - o'
        · have := (hG (n' - p')).2.1 (Nat.le_refl _) e; omega
        · have := (hG (n' - p')).2.2 (by omega); omega
    have hc : n - o = n' - o' := by
      rcases Nat.lt_trichotomy (n - o) (n' - o') with q | q | q
      · have a1 := (hF (n - o)).2.2 (Nat.le_refl _)
        have := h (n - o) (by omega)
        rw [a1] at this
        have := (hG (n - o)).2.1 (by omega) q
        omega
      · exact q
      · have a1 := (hG (n' - o')).2.2 (Nat.le_refl _)
        have := h (n' - o') (by omega)
        rw [a1] at this
        have := (hF (n' - o')).2.1 (by omega) q
        omega
    refine ⟨hc, fun x hx => ?_⟩
    by_cases q : x < n - p
    · rw [(lF x hx).1 q, (lG x (by omega)).1 (by omega)]
    · rw [((lF x hx).2 (by omega)).1, ((lG x (by omega)).2 (by omega)).1]
      have := h (n - o - 1 - x + (n - p)) (by omega)
      rw [if_pos (by omega), if_pos (by omega)] at this
      rw [show o + 1 + (x - (n - p)) = n - (n - o - 1 - x + (n - p)) by omega, show o' + 1 + (x - (n' - p')) = n' - (n - o - 1 - x + (n - p)) by omega]
      exact this
theorem gd_eq {n n' o o' p p' : Nat} {m m' : Nat → Nat → Nat} (hn : n ≤ 6) (hn' : n' ≤ 6) (hm : ∀ i j, m i j ≤ 9) (hm' : ∀ i j, m' i j ≤ 9) (hf : fsP (gfV n m) n o p) (hf' : fsP (gfV n' m') n' o' p') : gdV n m n' m' = gpK (fL (gfV n m) o p n) (fL (gfV n' m') o' p' n') (decide (n - o ≠ n' - o')) (n - o) := by
  have hl := fs_last hf hf' hn hn'
  have key : (∀ b, b < 6 → ffV n m b = ffV n' m' b) ↔ ∀ b, b < 6 → (if b < n then gfV n m (n - b) else 1) = (if b < n' then gfV n' m' (n' - b) else 1) := by
    have e : ∀ (n : Nat) (m : Nat → Nat → Nat) b, ffV n m b = lN (if b < n then gfV n m (n - b) else 1) := fun n m b => by
      unfold ffV
      split <;> rfl
    have lt : ∀ (n : Nat) (m : Nat → Nat → Nat) b, n ≤ 6 → (∀ i j, m i j ≤ 9) → (if b < n then gfV n m (n - b) else 1) < 2 ^ 63 := fun n m b h1 h2 => by
      split
      · exact Nat.lt_trans (gf_lt h1 h2 _) (by decide)
      · decide
    exact ⟨fun h b hb => (pk_lEQ (lt n m b hn hm) (lt n' m' b hn' hm')).mp (by rw [← e, ← e]; exact h b hb), fun h b hb => by rw [e, e, h b hb]⟩
  unfold gdV
  by_cases h : ∀ b, b < 6 → ffV n m b = ffV n' m' b
  · rw [noB_t h, eq_comm, gp_iff]
    obtain ⟨h1, h2⟩ := hl.mpr (key.mp h)
    exact ⟨decide_eq_false (fun q => q h1), h2⟩
  · rw [noB_f h]
    have : ¬ gpK (fL (gfV n m) o p n) (fL (gfV n' m') o' p' n') (decide (n - o ≠ n' - o')) (n - o) = false := fun q => by
      obtain ⟨h1, h2⟩ := (gp_iff _ _ _ _).mp q
      exact h (key.mpr (hl.mp ⟨Classical.byContradiction (fun z => of_decide_eq_false h1 z), h2⟩))
    simpa using this
