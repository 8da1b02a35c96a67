/-! words of the twenty-first part: the reference's core -/
def cM (lf : Nat) (cf : Nat → Nat) (r c : Nat) : Nat := if r < pc lf ∧ c < pc lf then cf (6 * rw6 lf r + rw6 lf c) else 0
def coQ (n : Nat) (m : Nat → Nat → Nat) (lf : Nat) (cf : Nat → Nat) : Prop := lf < 64 ∧ pc lf ≤ n ∧ 1 ≤ pc lf ∧ (∀ z, z < 36 → cf z ≤ 9 * 2 ^ (6 - pc lf)) ∧ ∀ k, coS (5 - (n - pc lf)) (pc lf) (cM lf cf) k → coS 5 n m k
def eqP (lf : Nat) (cf : Nat → Nat) (i j : Nat) : Prop := ∀ k, k < 6 → lf.testBit k = true → cf (6 * k + i) = cf (6 * k + j)
def aqF (lf : Nat) (cf : Nat → Nat) (i j k : Nat) : Bool := it (fun k b => b && (!(lf.testBit k) || decide (cf (6 * k + i) = cf (6 * k + j)))) k true
theorem aq_s (lf : Nat) (cf : Nat → Nat) (i j k : Nat) : aqF lf cf i j (k + 1) = (aqF lf cf i j k && (!(lf.testBit k) || decide (cf (6 * k + i) = cf (6 * k + j)))) := rfl
theorem aq_iff (lf : Nat) (cf : Nat → Nat) (i j : Nat) : ∀ k, aqF lf cf i j k = true ↔ ∀ t, t < k → lf.testBit t = true → cf (6 * t + i) = cf (6 * t + j)
  | 0 => ⟨fun _ t h => absurd h (Nat.not_lt_zero t), fun _ => rfl⟩
  | k + 1 => by
    rw [aq_s, Bool.and_eq_true, Bool.or_eq_true, Bool.not_eq_true', decide_eq_true_eq, aq_iff lf cf i j k]
    constructor
    · rintro ⟨h1, h2⟩ t ht hb
      by_cases e : t = k
      · subst e
        rcases h2 with h2 | h2
        · rw [hb] at h2; cases h2
        · exact h2
      · exact h1 t (by omega) hb
    · intro h
      refine ⟨fun t ht => h t (by omega), ?_⟩
      by_cases e : lf.testBit k = true
      · exact Or.inr (h k (by omega) e)
      · exact Or.inl (by simpa using e)
theorem aq_f1 {lf : Nat} {cf : Nat → Nat} {i j k : Nat} (h : aqF lf cf i j k = false) : aqF lf cf i j (k + 1) = false := by rw [aq_s, h]; rfl
theorem aq_t1 {lf : Nat} {cf : Nat → Nat} {i j k : Nat} (h : aqF lf cf i j k = true) (hb : lf.testBit k = false) : aqF lf cf i j (k + 1) = true := by rw [aq_s, h, hb]; rfl
theorem aq_t2 {lf : Nat} {cf : Nat → Nat} {i j k : Nat} (h : aqF lf cf i j k = true) (e : cf (6 * k + i) = cf (6 * k + j)) : aqF lf cf i j (k + 1) = true := by rw [aq_s, h, decide_eq_true e, Bool.or_true]; rfl
theorem aq_f2 {lf : Nat} {cf : Nat → Nat} {i j k : Nat} (hb : lf.testBit k = true) (e : cf (6 * k + i) ≠ cf (6 * k + j)) : aqF lf cf i j (k + 1) = false := by rw [aq_s, decide_eq_false e, hb]; exact Bool.and_false _
theorem rk_f : ∀ lf, lf < 64 → ∀ i, i < 6 → lf.testBit i = true → rw6 lf (pc (lf % 2 ^ i)) = i ∧ pc (lf % 2 ^ i) < pc lf := by decide +kernel
theorem rk_lt : ∀ lf, lf < 64 → ∀ i, i < 6 → ∀ j, j < 6 → i < j → lf.testBit i = true → pc (lf % 2 ^ i) < pc (lf % 2 ^ j) := by decide +kernel
theorem rw_bit : ∀ lf, lf < 64 → ∀ r, r < 6 → r < pc lf → lf.testBit (rw6 lf r) = true := by decide +kernel
theorem rw_mono : ∀ lf, lf < 64 → ∀ r, r < 6 → ∀ t, t < 6 → r < t → t < pc lf → rw6 lf r < rw6 lf t := by decide +kernel
theorem rm_f : ∀ lf, lf < 64 → ∀ j, j < 6 → ∀ r, r < 6 → lf.testBit j = true → r < pc lf - 1 → rw6 (lf - 2 ^ j) r = rw6 lf (sk (pc (lf % 2 ^ j)) r) := by decide +kernel
def addR (cf : Nat → Nat) (i j k : Nat) : Nat → Nat := it (fun k f => updN f (6 * i + k) (f (6 * i + k) + f (6 * j + k))) k cf
theorem addR_at (cf : Nat → Nat) {i j : Nat} (hne : i ≠ j) : ∀ k, k ≤ 6 → ∀ z, addR cf i j k z = if 6 * i ≤ z ∧ z < 6 * i + k then cf z + cf (6 * j + (z - 6 * i)) else cf z
  | 0, _, z => by rw [if_neg (by omega)]; rfl
  | k + 1, hk, z => by
    have ih := addR_at cf hne k (by omega)
    show updN (addR cf i j k) (6 * i + k) (addR cf i j k (6 * i + k) + addR cf i j k (6 * j + k)) z = _
    simp only [updN]
    rw [ih (6 * i + k), ih (6 * j + k), ih z, if_neg (show ¬ (6 * i ≤ 6 * i + k ∧ 6 * i + k < 6 * i + k) by omega), if_neg (show ¬ (6 * i ≤ 6 * j + k ∧ 6 * j + k < 6 * i + k) by omega)]
    by_cases e : z = 6 * i + k
    · rw [if_pos e, if_pos (by omega), e, show 6 * i + k - 6 * i = k by omega]
    · rw [if_neg e]
      by_cases e2 : 6 * i ≤ z ∧ z < 6 * i + k
      · rw [if_pos e2, if_pos (by omega)]
      · rw [if_neg e2, if_neg (by omega)]
theorem co_merge {n : Nat} {m : Nat → Nat → Nat} {lf : Nat} {cf : Nat → Nat} {i j : Nat} (hn : n ≤ 6) (h : coQ n m lf cf) (hij : i < j) (hj : j < 6) (bi : lf.testBit i = true) (bj : lf.testBit j = true) (he : eqP lf cf i j) : coQ n m (lf - 2 ^ j) (addR cf i j 6) ∧ pc (lf - 2 ^ j) < pc lf := by
  obtain ⟨h1, h2, h3, h4, h5⟩ := h
  have hpc := sb_facts lf h1 j hj bj
  obtain ⟨ki, kil⟩ := rk_f lf h1 i (by omega) bi
  obtain ⟨kj, kjl⟩ := rk_f lf h1 j hj bj
  have klt := rk_lt lf h1 i (by omega) j hj hij bi
  have hp6 := pc_le lf h1
  generalize hl : pc (lf % 2 ^ i) = l at *
  generalize hh : pc (lf % 2 ^ j) = hI at *
  have hlf' : lf - 2 ^ j < 64 := Nat.lt_of_le_of_lt (Nat.sub_le _ _) h1
  have hrw : ∀ r, r < pc lf → rw6 lf r < 6 := fun r hr => rw_6 h1 hr
  have hrm : ∀ r, r < pc lf - 1 → rw6 (lf - 2 ^ j) r = rw6 lf (sk hI r) := fun r hr => by
    have := rm_f lf h1 j hj r (by omega) bj hr
    rw [hh] at this
    exact this
  have hinj : ∀ r t, r < pc lf → t < pc lf → rw6 lf r = rw6 lf t → r = t := fun r t hr ht e => by
    rcases Nat.lt_trichotomy r t with q | q | q
    · have := rw_mono lf h1 r (by omega) t (by omega) q ht; omega
    · exact q
    · have := rw_mono lf h1 t (by omega) r (by omega) q hr; omega
  refine ⟨⟨hlf', by omega, by omega, fun z hz => ?_, fun k hk => h5 k ?_⟩, by omega⟩
  · have e : 9 * 2 ^ (6 - pc (lf - 2 ^ j)) = 9 * 2 ^ (6 - pc lf) + 9 * 2 ^ (6 - pc lf) := by
      rw [show 6 - pc (lf - 2 ^ j) = (6 - pc lf) + 1 by omega, Nat.pow_succ]; omega
    rw [addR_at cf (by omega) 6 (Nat.le_refl 6), e]
    have q1 := h4 z hz
    split
    · have q2 := h4 (6 * j + (z - 6 * i)) (by omega)
      omega
    · omega
  · have ef : 5 - (n - pc lf) = (5 - (n - pc (lf - 2 ^ j))) + 1 := by omega
    rw [ef]
    refine Or.inr ⟨l, hI, klt, kjl, fun x hx => ?_, ?_⟩
    · unfold cM
      rw [if_pos ⟨hx, by omega⟩, if_pos ⟨hx, kjl⟩, ki, kj]
      exact he _ (hrw x hx) (rw_bit lf h1 x (by omega) hx)
    · have ev : skM (pc lf) hI (mgM l hI (cM lf cf)) = cM (lf - 2 ^ j) (addR cf i j 6) := by
        funext r c
        unfold skM
        by_cases q : r < pc lf - 1 ∧ c < pc lf - 1
        · have s1 : sk hI r < pc lf := by have := sk_le hI r; omega
          have s2 : sk hI c < pc lf := by have := sk_le hI c; omega
          rw [if_pos q]
          have e1 : cM (lf - 2 ^ j) (addR cf i j 6) r c = addR cf i j 6 (6 * rw6 lf (sk hI r) + rw6 lf (sk hI c)) := by
            unfold cM
            rw [if_pos ⟨by omega, by omega⟩, hrm r q.1, hrm c q.2]
          rw [e1, addR_at cf (by omega) 6 (Nat.le_refl 6)]
          have c6 := hrw _ s2
          unfold mgM
          by_cases e : sk hI r = l
          · rw [if_pos e, e, ki, if_pos (by omega)]
            unfold cM
            rw [if_pos ⟨by omega, s2⟩, if_pos ⟨kjl, s2⟩, ki, kj, show 6 * i + rw6 lf (sk hI c) - 6 * i = rw6 lf (sk hI c) by omega]
          · have hne : rw6 lf (sk hI r) ≠ i := fun q2 => e (hinj _ _ s1 (by omega) (by rw [q2, ki]))
            rw [if_neg e, if_neg (by omega)]
            unfold cM
            rw [if_pos ⟨s1, s2⟩]
        · rw [if_neg q]
          unfold cM
          rw [if_neg (by omega)]
      rw [ev, show pc lf - 1 = pc (lf - 2 ^ j) by omega]
      exact hk
def noP (lf : Nat) (cf : Nat → Nat) (i j : Nat) : Prop := ∀ x y, x < y → y < 6 → (x < i ∨ (x = i ∧ y < j)) → lf.testBit x = true → lf.testBit y = true → ¬ eqP lf cf x y
theorem noP_s {lf : Nat} {cf : Nat → Nat} {i j : Nat} (h : noP lf cf i j) (hn : ¬ (lf.testBit i = true ∧ lf.testBit j = true ∧ eqP lf cf i j)) : noP lf cf i (j + 1) := fun x y h1 h2 h3 b1 b2 he => by
  by_cases e : x = i ∧ y = j
  · rw [e.1] at b1 he; rw [e.2] at b2 he; exact hn ⟨b1, b2, he⟩
  · exact h x y h1 h2 (by omega) b1 b2 he
theorem noP_i {lf : Nat} {cf : Nat → Nat} {i : Nat} (h : noP lf cf i (i + 1)) : True := trivial
theorem noP_n {lf : Nat} {cf : Nat → Nat} {i : Nat} (h : noP lf cf i 6) (j : Nat) : noP lf cf (i + 1) j ∨ True := Or.inr trivial
theorem noP_b {lf : Nat} {cf : Nat → Nat} {i : Nat} (h : noP lf cf i 0) : noP lf cf i (i + 1) := fun x y h1 h2 h3 => h x y h1 h2 (by omega)
theorem noP_e {lf : Nat} {cf : Nat → Nat} {i : Nat} (h : noP lf cf i 6) : noP lf cf (i + 1) 0 := fun x y h1 h2 h3 => h x y h1 h2 (by omega)
theorem co_end {n : Nat} {m : Nat → Nat → Nat} {lf : Nat} {cf : Nat → Nat} (h : coQ n m lf cf) (hn : noP lf cf 6 0) : coS 5 n m (pc lf) := by
  obtain ⟨h1, h2, h3, h4, h5⟩ := h
  have hp6 := pc_le lf h1
  refine h5 _ (coS_end (fun x hx l hl hq => ?_) _)
  refine hn (rw6 lf l) (rw6 lf x) (rw_mono lf h1 l (by omega) x (by omega) hl hx) (rw_6 h1 hx) (Or.inl (rw_6 h1 (by omega))) (rw_bit lf h1 l (by omega) (by omega)) (rw_bit lf h1 x (by omega) hx) (fun k hk hb => ?_)
  obtain ⟨e1, e2⟩ := rk_f lf h1 k hk hb
  have := hq (pc (lf % 2 ^ k)) e2
  unfold cM at this
  rw [if_pos ⟨e2, by omega⟩, if_pos ⟨e2, hx⟩, e1] at this
  exact this
theorem co_0 {nw : Nat → Nat} {b : Nat} (h1 : 1 ≤ nw b) (h6 : nw b ≤ 6) (hN : ∀ k, nw k ≤ 9) : coQ (nw b) (rvV nw b) (2 ^ nw b - 1) (fun z => nw (b + (1 + z))) := by
  have hp := p2_le h6
  have hp0 := Nat.two_pow_pos (nw b)
  obtain ⟨a1, a2⟩ := ld_f (nw b) (by omega) (nw b) (Nat.le_refl _)
  refine ⟨by omega, by omega, by omega, fun z _ => ?_, fun k hk => ?_⟩
  · have := hN (b + (1 + z))
    have h2 : 1 ≤ 2 ^ (6 - pc (2 ^ nw b - 1)) := Nat.two_pow_pos _
    show nw (b + (1 + z)) ≤ _
    omega
  · rw [a1] at hk
    have e : cM (2 ^ nw b - 1) (fun z => nw (b + (1 + z))) = rvV nw b := by
      funext r c
      unfold cM rvV
      rw [a1]
      by_cases q : r < nw b ∧ c < nw b
      · rw [if_pos q, if_pos q, (a2 r q.1).1, (a2 c q.2).1]
        show nw (b + (1 + (6 * r + c))) = _
        rw [show 1 + (6 * r + c) = 1 + 6 * r + c by omega]
      · rw [if_neg q, if_neg q]
    rw [e, show 5 - (nw b - nw b) = 5 by omega] at hk
    exact hk
theorem co_lt {n : Nat} {m : Nat → Nat → Nat} {lf : Nat} {cf : Nat → Nat} (h : coQ n m lf cf) (z : Nat) (hz : z < 36) : cf z < 2147483648 := by
  have h1 := h.2.2.2.1 z hz
  have h2 : (2 : Nat) ^ (6 - pc lf) ≤ 2 ^ 6 := Nat.pow_le_pow_right (by decide) (by omega)
  omega
theorem co_add {c1 : Nat → Int64} {cf : Nat → Nat} {i j k : Nat} (h : ∀ z, z < 36 → c1 z = lN (addR cf i j k z)) : ∀ z, z < 36 → vp_updL c1 (6 * i + k) (lN (addR cf i j k (6 * i + k)) + lN (addR cf i j k (6 * j + k))) z = lN (addR cf i j (k + 1) z) := fun z hz => by
  show _ = lN (updN (addR cf i j k) (6 * i + k) (addR cf i j k (6 * i + k) + addR cf i j k (6 * j + k)) z)
  rw [lN_add]
  simp only [updN]
  by_cases e : z = 6 * i + k
  · subst e; rw [pk_uLs, if_pos rfl]
  · rw [pk_uLn e, if_neg e]; exact h z hz
def coI (n : Nat) (m : Nat → Nat → Nat) (lf : Nat) (cf : Nat → Nat) (c1 : Nat → Int64) (bm : Bool) (i j p0 : Nat) : Prop := coQ n m lf cf ∧ (∀ z, z < 36 → c1 z = lN (cf z)) ∧ (bm = false → noP lf cf i j) ∧ pc lf ≤ p0 ∧ (bm = true → pc lf < p0)
theorem coI_n {n : Nat} {m : Nat → Nat → Nat} {lf : Nat} {cf : Nat → Nat} {c1 : Nat → Int64} {bm : Bool} {i j p0 : Nat} (h : coI n m lf cf c1 bm i j p0) (hn : ¬ (lf.testBit i = true ∧ lf.testBit j = true ∧ eqP lf cf i j)) : coI n m lf cf c1 bm i (j + 1) p0 := ⟨h.1, h.2.1, fun q => noP_s (h.2.2.1 q) hn, h.2.2.2.1, h.2.2.2.2⟩
theorem coI_m {n : Nat} {m : Nat → Nat → Nat} {lf : Nat} {cf : Nat → Nat} {c1 c2 : Nat → Int64} {bm : Bool} {i j p0 : Nat} (hn : n ≤ 6) (h : coI n m lf cf c1 bm i j p0) (hij : i < j) (hj : j < 6) (bi : lf.testBit i = true) (bj : lf.testBit j = true) (he : eqP lf cf i j) (hc : ∀ z, z < 36 → c2 z = lN (addR cf i j 6 z)) : coI n m (lf - 2 ^ j) (addR cf i j 6) c2 true i (j + 1) p0 := by
  obtain ⟨h1, h2, h3, h4, h5⟩ := h
  obtain ⟨g1, g2⟩ := co_merge hn h1 hij hj bi bj he
  exact ⟨g1, hc, (fun q => by cases q), by omega, fun _ => by omega⟩
theorem aq_eqP {lf : Nat} {cf : Nat → Nat} {i j : Nat} : aqF lf cf i j 6 = true ↔ eqP lf cf i j := aq_iff lf cf i j 6
theorem coI_n1 {n : Nat} {m : Nat → Nat → Nat} {lf : Nat} {cf : Nat → Nat} {c1 : Nat → Int64} {bm : Bool} {i j p0 : Nat} (h : coI n m lf cf c1 bm i j p0) (hb : lf.testBit i = false) : coI n m lf cf c1 bm i (j + 1) p0 := coI_n h (fun q => by rw [hb] at q; cases q.1)
theorem coI_n2 {n : Nat} {m : Nat → Nat → Nat} {lf : Nat} {cf : Nat → Nat} {c1 : Nat → Int64} {bm : Bool} {i j p0 : Nat} (h : coI n m lf cf c1 bm i j p0) (hb : lf.testBit j = false) : coI n m lf cf c1 bm i (j + 1) p0 := coI_n h (fun q => by rw [hb] at q; cases q.2.1)
theorem coI_n3 {n : Nat} {m : Nat → Nat → Nat} {lf : Nat} {cf : Nat → Nat} {c1 : Nat → Int64} {bm : Bool} {i j p0 : Nat} (h : coI n m lf cf c1 bm i j p0) (hb : aqF lf cf i j 6 = false) : coI n m lf cf c1 bm i (j + 1) p0 := coI_n h (fun q => by rw [aq_eqP.mpr q.2.2] at hb; cases hb)
theorem coI_d {n : Nat} {m : Nat → Nat → Nat} {lf : Nat} {cf : Nat → Nat} {c1 : Nat → Int64} {bm : Bool} {i j p0 : Nat} (h : coI n m lf cf c1 bm i j p0) : 2 * pc lf + (if bm = true then 1 else 0) < 2 * p0 + (if true = true then 1 else 0) := by
  obtain ⟨h1, h2, h3, h4, h5⟩ := h
  rw [if_pos rfl]
  cases bm with
  | false => rw [if_neg (by decide)]; omega
  | true => rw [if_pos rfl]; have := h5 rfl; omega
theorem co_w {c2 : Nat → Int64} {nw : Nat → Nat} {b i j : Nat} (h : ∀ z, z < 6 * i + j → c2 z = lN (nw (b + (1 + z)))) : ∀ z, z < 6 * i + (j + 1) → vp_updL c2 (6 * i + j) (lN (nw (b + (1 + 6 * i + j)))) z = lN (nw (b + (1 + z))) := fun z hz => by
  by_cases e : z = 6 * i + j
  · subst e; rw [pk_uLs, Nat.add_assoc 1]
  · rw [pk_uLn e]; exact h z (by omega)
theorem hd_X6_areEqual : yX6_areEqual.cls = RX6 ∧ yX6_areEqual.cls ≠ "java/lang/invoke/MethodHandle" ∧ yX6_areEqual.cls ≠ "java/lang/invoke/VarHandle" ∧ (parseMethodDescriptor yX6_areEqual.desc).map (fun d => d.parameters.length) = some 3 := by decide +kernel
theorem hd_X6_coreOf : yX6_coreOf.cls = RX6 ∧ yX6_coreOf.cls ≠ "java/lang/invoke/MethodHandle" ∧ yX6_coreOf.cls ≠ "java/lang/invoke/VarHandle" ∧ (parseMethodDescriptor yX6_coreOf.desc).map (fun d => d.parameters.length) = some 1 := by decide +kernel
theorem hd_X6_coreSize : yX6_coreSize.cls = RX6 ∧ yX6_coreSize.cls ≠ "java/lang/invoke/MethodHandle" ∧ yX6_coreSize.cls ≠ "java/lang/invoke/VarHandle" ∧ (parseMethodDescriptor yX6_coreSize.desc).map (fun d => d.parameters.length) = some 0 := by decide +kernel
