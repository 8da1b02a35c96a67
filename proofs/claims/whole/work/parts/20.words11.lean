/-! words of the eleventh part: what the reference's changes do to the shown state -/
abbrev MS : Type := (Nat → Nat) × (Nat → Nat) × (Nat → Nat) × Nat
abbrev MC : Type := (Nat → Nat) × (Nat → Int64) × (Nat → Int64) × (Nat → Int64) × (Nat → Int64) × (Nat → Int64) × (Nat → Int64) × (Nat → Int64)
abbrev MSC (G : gG) (md : Nat → Nat) (u : MS × MC) : va_W := MW G md u.1.1 u.1.2.1 u.1.2.2.1 u.1.2.2.2 u.2.1 u.2.2.1 u.2.2.2.1 u.2.2.2.2.1 u.2.2.2.2.2.1 u.2.2.2.2.2.2.1 u.2.2.2.2.2.2.2.1 u.2.2.2.2.2.2.2.2
def mcP (sp : Int32 × AS) (r : Int32) (u : MS × MC) : Prop := r = sp.1 ∧ asM u.1.1 u.1.2.1 u.1.2.2.1 u.1.2.2.2 = sp.2 ∧ MI u.1.1 u.1.2.1 u.1.2.2.1 u.1.2.2.2
def svB (k : Nat) (nw : Nat → Nat) : Nat → Nat := it (fun k w => updN w (37 + k) (w k)) k nw
def swB (k : Nat) (nw : Nat → Nat) : Nat → Nat := it (fun k w => updN (updN w k (w (37 + k))) (37 + k) (w k)) k nw
def rsB (k : Nat) (nw : Nat → Nat) : Nat → Nat := it (fun k w => updN w (k + 1) 0) k nw
theorem svB_at (nw : Nat → Nat) : ∀ k, k ≤ 37 → ∀ x, svB k nw x = if 37 ≤ x ∧ x < 37 + k then nw (x - 37) else nw x
  | 0, _, x => by rw [if_neg (by omega)]; rfl
  | k + 1, hk, x => by
    show updN (svB k nw) (37 + k) (svB k nw k) x = _
    simp only [updN]
    rw [svB_at nw k (by omega), svB_at nw k (by omega), if_neg (show ¬ (37 ≤ k ∧ k < 37 + k) by omega)]
    by_cases e : x = 37 + k
    · rw [if_pos e, if_pos (by omega), e, show 37 + k - 37 = k by omega]
    · rw [if_neg e]
      by_cases e2 : 37 ≤ x ∧ x < 37 + k
      · rw [if_pos e2, if_pos (by omega)]
      · rw [if_neg e2, if_neg (by omega)]
theorem swB_at (nw : Nat → Nat) : ∀ k, k ≤ 37 → ∀ x, swB k nw x = if x < k then nw (37 + x) else if 37 ≤ x ∧ x < 37 + k then nw (x - 37) else nw x
  | 0, _, x => by rw [if_neg (by omega), if_neg (by omega)]; rfl
  | k + 1, hk, x => by
    show updN (updN (swB k nw) k (swB k nw (37 + k))) (37 + k) (swB k nw k) x = _
    simp only [updN]
    rw [swB_at nw k (by omega), swB_at nw k (by omega), swB_at nw k (by omega), if_neg (show ¬ k < k by omega), if_neg (show ¬ (37 ≤ k ∧ k < 37 + k) by omega), if_neg (show ¬ 37 + k < k by omega), if_neg (show ¬ (37 ≤ 37 + k ∧ 37 + k < 37 + k) by omega)]
    by_cases e : x = 37 + k
    · rw [if_pos e, if_neg (by omega), if_pos (by omega), e, show 37 + k - 37 = k by omega]
    · rw [if_neg e]
      by_cases e1 : x = k
      · rw [if_pos e1, if_pos (by omega), e1]
      · rw [if_neg e1]
        by_cases e2 : x < k
        · rw [if_pos e2, if_pos (by omega)]
        · rw [if_neg e2]
          by_cases e3 : 37 ≤ x ∧ x < 37 + k
          · rw [if_pos e3, if_neg (by omega), if_pos (by omega)]
          · rw [if_neg e3, if_neg (by omega), if_neg (by omega)]
theorem rsB_at (nw : Nat → Nat) : ∀ k x, rsB k nw x = if 1 ≤ x ∧ x < k + 1 then 0 else nw x
  | 0, x => by rw [if_neg (by omega)]; rfl
  | k + 1, x => by
    show updN (rsB k nw) (k + 1) 0 x = _
    simp only [updN]
    rw [rsB_at nw k]
    by_cases e : x = k + 1
    · rw [if_pos e, if_pos (by omega)]
    · rw [if_neg e]
      by_cases e2 : 1 ≤ x ∧ x < k + 1
      · rw [if_pos e2, if_pos (by omega)]
      · rw [if_neg e2, if_neg (by omega)]
theorem amM_ext {nw : Nat → Nat} {b n : Nat} {m : Nat → Nat → Nat} (h0 : nw b = n) (h : ∀ i j, (if i < n ∧ j < n then nw (b + (1 + 6 * i + j)) else 0) = m i j) : amM nw b = (n, m) := by
  unfold amM
  rw [h0]
  congr 1
  funext i j
  rw [← h i j]
  unfold rvV
  rw [h0]
theorem amM_shift {f g : Nat → Nat} {b c : Nat} (h0 : g c ≤ 6) (h : ∀ x, x < 37 → f (b + x) = g (c + x)) : amM f b = amM g c := by
  have e0 : f b = g c := h 0 (by omega)
  refine amM_ext e0 fun i j => ?_
  unfold rvV
  by_cases e : i < g c ∧ j < g c
  · rw [if_pos e, if_pos e, h _ (by omega)]
  · rw [if_neg e, if_neg e]
theorem am_reset {nw : Nat → Nat} {k : Nat} (hk : k ≤ 6) : amM (rsB 36 (updN nw 0 k)) 0 = (k, fun _ _ => 0) := by
  refine amM_ext ?_ fun i j => ?_
  · rw [rsB_at, if_neg (by omega)]; rfl
  · split
    · next h => rw [rsB_at, if_pos (by omega)]
    · rfl
theorem am_reset2 {nw : Nat → Nat} {k : Nat} (h : nw 37 ≤ 6) : amM (rsB 36 (updN nw 0 k)) 37 = amM nw 37 :=
  amM_shift h fun x hx => by rw [rsB_at, if_neg (by omega)]; simp only [updN]; rw [if_neg (by omega)]
theorem am_set {nw : Nat → Nat} {i j v : Nat} (h : nw 0 ≤ 6) (hi : i < nw 0) (hj : j < nw 0) : amM (updN nw (1 + 6 * i + j) v) 0 = (nw 0, upM (rvV nw 0) i j v) := by
  refine amM_ext (by simp only [updN]; rw [if_neg (by omega)]) fun r c => ?_
  simp only [updN, upM, rvV]
  by_cases e : r < nw 0 ∧ c < nw 0
  · rw [if_pos e, if_pos e]
    by_cases e2 : r = i ∧ c = j
    · rw [if_pos e2, if_pos (by omega)]
    · rw [if_neg e2, if_neg (by omega)]
  · rw [if_neg e, if_neg (by omega), if_neg e]
theorem am_set2 {nw : Nat → Nat} {i j v : Nat} (h : nw 37 ≤ 6) (hi : i < 6) (hj : j < 6) : amM (updN nw (1 + 6 * i + j) v) 37 = amM nw 37 :=
  amM_shift h fun x hx => by simp only [updN]; rw [if_neg (by omega)]
theorem MI_reset {nw bf sh : Nat → Nat} {um : Nat} (hI : MI nw bf sh um) {k : Nat} (h1 : 1 ≤ k) (h6 : k ≤ 6) : MI (rsB 36 (updN nw 0 k)) (kpB nw bf um) sh (kpM um + 1) := by
  obtain ⟨g1, g3, hN, hB, hS, hu, hz, hbz⟩ := id hI
  refine MI_keep hI ?_ ?_ (fun x => ?_) (fun b hb i j hi hj hij => ?_)
  · rw [rsB_at, if_neg (by omega)]; exact ⟨h1, h6⟩
  · rw [rsB_at, if_neg (by omega)]; exact g3
  · rw [rsB_at]; split
    · omega
    · simp only [updN]; split
      · omega
      · exact hN x
  · rcases hb with rfl | rfl
    · rw [rsB_at, if_pos (by omega)]
    · rw [rsB_at, if_neg (by omega)] at *
      simp only [updN] at *
      rw [if_neg (by omega)] at *
      exact hz 37 (Or.inr rfl) i j hi hj hij
theorem MI_set {nw bf sh : Nat → Nat} {um : Nat} (hI : MI nw bf sh um) {i j v : Nat} (hi : i < nw 0) (hj : j < nw 0) (hv : v ≤ 9) : MI (updN nw (1 + 6 * i + j) v) (kpB nw bf um) sh (kpM um + 1) := by
  obtain ⟨g1, g3, hN, hB, hS, hu, hz, hbz⟩ := id hI
  have e0 : updN nw (1 + 6 * i + j) v 0 = nw 0 := by simp only [updN]; rw [if_neg (by omega)]
  have e37 : updN nw (1 + 6 * i + j) v 37 = nw 37 := by simp only [updN]; rw [if_neg (by omega)]
  refine MI_keep hI (by rw [e0]; exact g1) (by rw [e37]; exact g3) (fun x => ?_) (fun b hb r c hr hc hrc => ?_)
  · simp only [updN]; split
    · exact hv
    · exact hN x
  · rcases hb with rfl | rfl
    · rw [e0] at hrc
      simp only [updN]
      rw [if_neg (by omega)]
      exact hz 0 (Or.inl rfl) r c hr hc hrc
    · rw [e37] at hrc
      simp only [updN]
      rw [if_neg (by omega)]
      exact hz 37 (Or.inr rfl) r c hr hc hrc
theorem am_swap {nw : Nat → Nat} (h : nw 37 ≤ 6) : amM (swB 37 nw) 0 = amM nw 37 :=
  amM_shift h fun x hx => by rw [swB_at nw 37 (by omega), if_pos (by omega)]; simp
theorem am_swap2 {nw : Nat → Nat} (h : nw 0 ≤ 6) : amM (swB 37 nw) 37 = amM nw 0 :=
  amM_shift h fun x hx => by rw [swB_at nw 37 (by omega), if_neg (by omega), if_pos (by omega)]; congr 1; omega
theorem MI_swap {nw bf sh : Nat → Nat} {um : Nat} (hI : MI nw bf sh um) : MI (swB 37 nw) (kpB nw bf um) sh (kpM um + 1) := by
  obtain ⟨g1, g3, hN, hB, hS, hu, hz, hbz⟩ := id hI
  have e0 : swB 37 nw 0 = nw 37 := by rw [swB_at nw 37 (by omega), if_pos (by omega)]
  have e37 : swB 37 nw 37 = nw 0 := by rw [swB_at nw 37 (by omega), if_neg (by omega), if_pos (by omega)]
  refine MI_keep hI (by rw [e0]; exact g3) (by rw [e37]; exact g1) (fun x => ?_) (fun b hb r c hr hc hrc => ?_)
  · rw [swB_at nw 37 (by omega)]; split
    · exact hN _
    · split
      · exact hN _
      · exact hN _
  · rcases hb with rfl | rfl
    · rw [e0] at hrc
      rw [swB_at nw 37 (by omega), if_pos (by omega), Nat.zero_add]
      exact hz 37 (Or.inr rfl) r c hr hc hrc
    · rw [e37] at hrc
      rw [swB_at nw 37 (by omega), if_neg (by omega), if_pos (by omega), show 37 + (1 + 6 * r + c) - 37 = 0 + (1 + 6 * r + c) by omega]
      exact hz 0 (Or.inl rfl) r c hr hc hrc
theorem am_save {nw : Nat → Nat} (h : nw 0 ≤ 6) : amM (svB 37 nw) 0 = amM nw 0 :=
  amM_shift h fun x hx => by rw [svB_at nw 37 (by omega), if_neg (by omega)]
theorem am_save2 {nw : Nat → Nat} (h : nw 0 ≤ 6) : amM (svB 37 nw) 37 = amM nw 0 :=
  amM_shift h fun x hx => by rw [svB_at nw 37 (by omega), if_pos (by omega)]; congr 1; omega
theorem MI_save {nw bf sh : Nat → Nat} {um : Nat} (hI : MI nw bf sh um) : MI (svB 37 nw) bf sh um := by
  obtain ⟨g1, g3, hN, hB, hS, hu, hz, hbz⟩ := hI
  have e0 : svB 37 nw 0 = nw 0 := by rw [svB_at nw 37 (by omega), if_neg (by omega)]
  have e37 : svB 37 nw 37 = nw 0 := by rw [svB_at nw 37 (by omega), if_pos (by omega)]
  refine ⟨by rw [e0]; exact g1, by rw [e37]; exact g1, (fun x => ?_), hB, hS, hu, (fun b hb r c hr hc hrc => ?_), hbz⟩
  · rw [svB_at nw 37 (by omega)]; split
    · exact hN _
    · exact hN _
  · rcases hb with rfl | rfl
    · rw [e0] at hrc
      rw [svB_at nw 37 (by omega), if_neg (by omega)]
      exact hz 0 (Or.inl rfl) r c hr hc hrc
    · rw [e37] at hrc
      rw [svB_at nw 37 (by omega), if_pos (by omega), show 37 + (1 + 6 * r + c) - 37 = 0 + (1 + 6 * r + c) by omega]
      exact hz 0 (Or.inl rfl) r c hr hc hrc
theorem MI_share {nw bf sh : Nat → Nat} {um : Nat} (hI : MI nw bf sh um) {i v : Nat} (hv : v ≤ 9) : MI nw bf (updN sh i v) um := by
  obtain ⟨g1, g3, hN, hB, hS, hu, hz, hbz⟩ := hI
  refine ⟨g1, g3, hN, hB, fun x => ?_, hu, hz, hbz⟩
  simp only [updN]; split
  · exact hv
  · exact hS x
theorem hiM_succ (bf : Nat → Nat) (um : Nat) : hiM bf (um + 1) = (amM (fun x => bf (74 * um + x)) 0, amM (fun x => bf (74 * um + x)) 37) :: hiM bf um := by
  unfold hiM
  rw [List.range_succ_eq_map, List.map_cons, List.map_map]
  congr 1
  refine List.map_congr_left fun k hk => ?_
  simp only [Function.comp, Nat.succ_eq_add_one]
  rw [show um + 1 - 1 - (k + 1) = um - 1 - k by omega]
theorem MI_undo {nw bf sh : Nat → Nat} {um : Nat} (hI : MI nw bf sh (um + 1)) : MI (unB bf um 74 nw) bf sh um := by
  obtain ⟨g1, g3, hN, hB, hS, hu, hz, hbz⟩ := hI
  obtain ⟨p1, p2⟩ := hbz um (by omega) 0 (Or.inl rfl)
  obtain ⟨q1, q2⟩ := hbz um (by omega) 37 (Or.inr rfl)
  refine ⟨by rw [unB_at, if_pos (by omega)]; exact p1, by rw [unB_at, if_pos (by omega)]; exact q1, fun x => ?_, hB, hS, by omega, fun b hb r c hr hc hrc => ?_, fun t ht => hbz t (by omega)⟩
  · rw [unB_at]; split
    · exact hB _
    · exact hN _
  · rcases hb with rfl | rfl
    · rw [unB_at, if_pos (by omega)] at hrc
      rw [unB_at, if_pos (by omega), ← Nat.add_assoc]
      exact p2 r c hr hc hrc
    · rw [unB_at, if_pos (by omega)] at hrc
      rw [unB_at, if_pos (by omega), ← Nat.add_assoc]
      exact q2 r c hr hc hrc
theorem as_undo {nw bf sh : Nat → Nat} {um : Nat} (hI : MI nw bf sh (um + 1)) : spUndo (asM nw bf sh (um + 1)) = (nI um, asM (unB bf um 74 nw) bf sh um) := by
  obtain ⟨g1, g3, hN, hB, hS, hu, hz, hbz⟩ := hI
  obtain ⟨p1, p2⟩ := hbz um (by omega) 0 (Or.inl rfl)
  obtain ⟨q1, q2⟩ := hbz um (by omega) 37 (Or.inr rfl)
  have e : asM nw bf sh (um + 1) = (amM nw 0, amM nw 37, (amM (fun x => bf (74 * um + x)) 0, amM (fun x => bf (74 * um + x)) 37) :: hiM bf um, sh) := by
    unfold asM; rw [hiM_succ]
  have a0 : amM (unB bf um 74 nw) 0 = amM (fun x => bf (74 * um + x)) 0 := amM_cong (Or.inl rfl) (by rw [unB_at, if_pos (by omega)]; exact p1.2) fun x hx => by rw [unB_at, if_pos hx]
  have a1 : amM (unB bf um 74 nw) 37 = amM (fun x => bf (74 * um + x)) 37 := amM_cong (Or.inr rfl) (by rw [unB_at, if_pos (by omega)]; exact q1.2) fun x hx => by rw [unB_at, if_pos hx]
  rw [e]
  unfold spUndo asM
  rw [a0, a1]
  have hl : (hiM bf um).length = um := by unfold hiM; rw [List.length_map, List.length_range]
  show (nI (hiM bf um).length, _) = _
  rw [hl]
theorem as_undo0 (nw bf sh : Nat → Nat) : spUndo (asM nw bf sh 0) = (-1000002, asM nw bf sh 0) := rfl
theorem iw_f {p : Int32} (a b : Nat) (ha : a < 2147483648) (hb : b < 2147483648) (h : inL p.toInt64 (lN a) (lN b) = false) : iwI p (nI a) (nI b) = false := by
  rw [← inL_iw ha hb]; exact h
theorem undo_ok {nw bf sh : Nat → Nat} {um : Nat} {c : MC} (hI : MI nw bf sh um) (h : 0 < um) : mcP (spUndo (asM nw bf sh um)) (nI (um - 1)) ((unB bf (um - 1) 74 nw, bf, sh, um - 1), c) := by
  obtain ⟨t, rfl⟩ : ∃ t, um = t + 1 := ⟨um - 1, by omega⟩
  have e := as_undo hI
  refine ⟨by rw [e]; rfl, by rw [e]; rfl, MI_undo hI⟩
theorem hd_X6_save : yX6_save.cls = RX6 ∧ yX6_save.cls ≠ "java/lang/invoke/MethodHandle" ∧ yX6_save.cls ≠ "java/lang/invoke/VarHandle" ∧ (parseMethodDescriptor yX6_save.desc).map (fun d => d.parameters.length) = some 0 := by decide +kernel
theorem hd_X6_swapSaved : yX6_swapSaved.cls = RX6 ∧ yX6_swapSaved.cls ≠ "java/lang/invoke/MethodHandle" ∧ yX6_swapSaved.cls ≠ "java/lang/invoke/VarHandle" ∧ (parseMethodDescriptor yX6_swapSaved.desc).map (fun d => d.parameters.length) = some 0 := by decide +kernel
theorem hd_X6_setShare : yX6_setShare.cls = RX6 ∧ yX6_setShare.cls ≠ "java/lang/invoke/MethodHandle" ∧ yX6_setShare.cls ≠ "java/lang/invoke/VarHandle" ∧ (parseMethodDescriptor yX6_setShare.desc).map (fun d => d.parameters.length) = some 2 := by decide +kernel
theorem hd_X6_reset : yX6_reset.cls = RX6 ∧ yX6_reset.cls ≠ "java/lang/invoke/MethodHandle" ∧ yX6_reset.cls ≠ "java/lang/invoke/VarHandle" ∧ (parseMethodDescriptor yX6_reset.desc).map (fun d => d.parameters.length) = some 1 := by decide +kernel
theorem hd_X6_setEntry : yX6_setEntry.cls = RX6 ∧ yX6_setEntry.cls ≠ "java/lang/invoke/MethodHandle" ∧ yX6_setEntry.cls ≠ "java/lang/invoke/VarHandle" ∧ (parseMethodDescriptor yX6_setEntry.desc).map (fun d => d.parameters.length) = some 3 := by decide +kernel
theorem hd_X6_undo : yX6_undo.cls = RX6 ∧ yX6_undo.cls ≠ "java/lang/invoke/MethodHandle" ∧ yX6_undo.cls ≠ "java/lang/invoke/VarHandle" ∧ (parseMethodDescriptor yX6_undo.desc).map (fun d => d.parameters.length) = some 0 := by decide +kernel
