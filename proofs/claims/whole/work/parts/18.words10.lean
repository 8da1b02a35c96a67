/-! words of the tenth part: the reference's world -/
abbrev MW (G : gG) (md : Nat → Nat) (nw bf sh : Nat → Nat) (um : Nat) (rc : Nat → Nat) (wy nx le en dt co li : Nat → Int64) : va_W :=
  [(md 0, .inr (5, [.ref (md 1), .ref (md 2), .ref (md 3), .int (nI um), .ref (md 4), .ref (md 5), .ref (md 6), .ref (md 7), .ref (md 8), .ref (md 9), .ref (md 10), .ref (md 11)])), (md 1, .inl (gI G, 74, .inl (nF nw))), (md 2, .inl (gI G, 296, .inl (nF bf))), (md 3, .inl (gI G, 6, .inl (nF sh))), (md 4, .inl (gI G, 6, .inl (nF rc))), (md 5, .inl (gJ G, 6, .inr (.inl wy))), (md 6, .inl (gJ G, 6, .inr (.inl nx))), (md 7, .inl (gJ G, 9, .inr (.inl le))), (md 8, .inl (gJ G, 36, .inr (.inl en))), (md 9, .inl (gJ G, 64, .inr (.inl dt))), (md 10, .inl (gJ G, 36, .inr (.inl co))), (md 11, .inl (gJ G, 12, .inr (.inl li)))]
def inL (v lo hi : Int64) : Bool := decide (lo ≤ v) && decide (v ≤ hi)
theorem inL_lo {v lo hi : Int64} (h : v < lo) : inL v lo hi = false := by
  simp only [inL, Bool.and_eq_false_iff, decide_eq_false_iff_not]
  exact Or.inl (Int64.not_le.mpr h)
theorem inL_hi {v lo hi : Int64} (h : hi < v) : inL v lo hi = false := by
  simp only [inL, Bool.and_eq_false_iff, decide_eq_false_iff_not]
  exact Or.inr (Int64.not_le.mpr h)
theorem inL_tt {v lo hi : Int64} (h1 : ¬ v < lo) (h2 : ¬ hi < v) : inL v lo hi = true := by
  simp only [inL, Bool.and_eq_true, decide_eq_true_eq]
  exact ⟨Int64.not_lt.mp h1, Int64.not_lt.mp h2⟩
theorem toL_le (a b : Int32) : a.toInt64 ≤ b.toInt64 ↔ a ≤ b := by
  rw [Int64.le_iff_toInt_le, Int32.le_iff_toInt_le]
  simp
theorem inL_iw {p : Int32} {a b : Nat} (ha : a < 2147483648) (hb : b < 2147483648) : inL p.toInt64 (lN a) (lN b) = iwI p (nI a) (nI b) := by
  rw [inL, iwI, ← nI_l ha, ← nI_l hb]
  congr 1
  · exact decide_eq_decide.mpr (toL_le _ _)
  · exact decide_eq_decide.mpr (toL_le _ _)
theorem iw_has {p : Int32} {n : Nat} (h1 : 1 ≤ n) (hn : n < 2147483648) : iwI p (nI 0) (nI (n - 1)) = hasI n p := by
  unfold iwI hasI
  have e : nI 0 = (0 : Int32) := rfl
  rw [e]
  congr 1
  refine decide_eq_decide.mpr ?_
  rw [Int32.le_iff_toInt_le, Int32.lt_iff_toInt_lt, nI_toInt (by omega), nI_toInt hn]
  omega
theorem bit1_t {s i : Nat} (h : (s >>> i) &&& 1 = 1) : Nat.testBit s i = true := bit_ne (by omega)
theorem bit1_f {s i : Nat} (h : (s >>> i) &&& 1 ≠ 1) : Nat.testBit s i = false := by
  refine bit_eq ?_
  have : (s >>> i) &&& 1 ≤ 1 := Nat.and_le_right
  omega
def MI (nw bf sh : Nat → Nat) (um : Nat) : Prop := (1 ≤ nw 0 ∧ nw 0 ≤ 6) ∧ (1 ≤ nw 37 ∧ nw 37 ≤ 6) ∧ (∀ k, nw k ≤ 9) ∧ (∀ k, bf k ≤ 9) ∧ (∀ k, sh k ≤ 9) ∧ um ≤ 4 ∧ (∀ b, b = 0 ∨ b = 37 → ∀ i j, i < 6 → j < 6 → ¬ (i < nw b ∧ j < nw b) → nw (b + (1 + 6 * i + j)) = 0) ∧ (∀ t, t < um → ∀ b, b = 0 ∨ b = 37 → (1 ≤ bf (74 * t + b) ∧ bf (74 * t + b) ≤ 6) ∧ ∀ i j, i < 6 → j < 6 → ¬ (i < bf (74 * t + b) ∧ j < bf (74 * t + b)) → bf (74 * t + b + (1 + 6 * i + j)) = 0)
/-- the view of a row of 37 that begins at b -/
def rvV (nw : Nat → Nat) (b i j : Nat) : Nat := if i < nw b ∧ j < nw b then nw (b + (1 + 6 * i + j)) else 0
def amM (nw : Nat → Nat) (b : Nat) : AM := (nw b, rvV nw b)
def hiM (bf : Nat → Nat) (um : Nat) : List (AM × AM) := (List.range um).map (fun k => (amM (fun x => bf (74 * (um - 1 - k) + x)) 0, amM (fun x => bf (74 * (um - 1 - k) + x)) 37))
def asM (nw bf sh : Nat → Nat) (um : Nat) : AS := (amM nw 0, amM nw 37, hiM bf um, sh)
def shB (k : Nat) (bf : Nat → Nat) : Nat → Nat := it (fun k b => updN b k (b (74 + k))) k bf
def cpB (nw : Nat → Nat) (t k : Nat) (bf : Nat → Nat) : Nat → Nat := it (fun k b => updN b (74 * t + k) (nw k)) k bf
def kpM (um : Nat) : Nat := if um = 4 then 3 else um
def kpS4 (um : Nat) (bf : Nat → Nat) : Nat → Nat := if um = 4 then shB 222 bf else bf
def kpB (nw bf : Nat → Nat) (um : Nat) : Nat → Nat := cpB nw (kpM um) 74 (kpS4 um bf)
theorem kpM_le {um : Nat} (h : um ≤ 4) : kpM um ≤ 3 := by unfold kpM; split <;> omega
def unB (bf : Nat → Nat) (t k : Nat) (nw : Nat → Nat) : Nat → Nat := it (fun k w => updN w k (bf (74 * t + k))) k nw
theorem shB_at (bf : Nat → Nat) : ∀ k x, shB k bf x = if x < k then bf (74 + x) else bf x
  | 0, x => by rw [if_neg (by omega)]; rfl
  | k + 1, x => by
    show updN (shB k bf) k (shB k bf (74 + k)) x = _
    simp only [updN]
    by_cases e : x = k
    · rw [if_pos e, if_pos (by omega), shB_at bf k (74 + k), if_neg (by omega), e]
    · rw [if_neg e, shB_at bf k x]
      by_cases e2 : x < k
      · rw [if_pos e2, if_pos (by omega)]
      · rw [if_neg e2, if_neg (by omega)]
theorem cpB_at (nw : Nat → Nat) (t : Nat) (bf : Nat → Nat) : ∀ k x, cpB nw t k bf x = if 74 * t ≤ x ∧ x < 74 * t + k then nw (x - 74 * t) else bf x
  | 0, x => by rw [if_neg (by omega)]; rfl
  | k + 1, x => by
    show updN (cpB nw t k bf) (74 * t + k) (nw k) x = _
    simp only [updN]
    by_cases e : x = 74 * t + k
    · rw [if_pos e, if_pos (by omega), e, show 74 * t + k - 74 * t = k by omega]
    · rw [if_neg e, cpB_at nw t bf k x]
      by_cases e2 : 74 * t ≤ x ∧ x < 74 * t + k
      · rw [if_pos e2, if_pos (by omega)]
      · rw [if_neg e2, if_neg (by omega)]
theorem unB_at (bf : Nat → Nat) (t : Nat) (nw : Nat → Nat) : ∀ k x, unB bf t k nw x = if x < k then bf (74 * t + x) else nw x
  | 0, x => by rw [if_neg (by omega)]; rfl
  | k + 1, x => by
    show updN (unB bf t k nw) k (bf (74 * t + k)) x = _
    simp only [updN]
    by_cases e : x = k
    · rw [if_pos e, if_pos (by omega), e]
    · rw [if_neg e, unB_at bf t nw k x]
      by_cases e2 : x < k
      · rw [if_pos e2, if_pos (by omega)]
      · rw [if_neg e2, if_neg (by omega)]
theorem amM_cong {f g : Nat → Nat} {b : Nat} (hb : b = 0 ∨ b = 37) (h6 : f b ≤ 6) (h : ∀ x, x < 74 → f x = g x) : amM f b = amM g b := by
  have h0 : f b = g b := h b (by omega)
  unfold amM
  rw [h0]
  congr 1
  funext i j
  unfold rvV
  rw [h0]
  by_cases e : i < g b ∧ j < g b
  · rw [if_pos e, if_pos e, h _ (by omega)]
  · rw [if_neg e, if_neg e]
theorem kpB_new (nw bf : Nat → Nat) (um x : Nat) (hx : x < 74) : kpB nw bf um (74 * kpM um + x) = nw x := by
  unfold kpB
  rw [cpB_at, if_pos (by omega), show 74 * kpM um + x - 74 * kpM um = x by omega]
theorem kpB_old (nw bf : Nat → Nat) {um : Nat} (hu : um ≤ 4) {t x : Nat} (ht : t < kpM um) (hx : x < 74) : kpB nw bf um (74 * t + x) = bf (74 * (t + (um - kpM um)) + x) := by
  unfold kpB
  rw [cpB_at, if_neg (by omega)]
  unfold kpS4 kpM at *
  by_cases e : um = 4
  · rw [if_pos e] at ht ⊢
    rw [if_pos e, shB_at, if_pos (by omega), show 74 + (74 * t + x) = 74 * (t + (um - 3)) + x by omega]
  · rw [if_neg e] at ht ⊢
    rw [if_neg e, Nat.sub_self, Nat.add_zero]
theorem hiM_keep {nw bf sh : Nat → Nat} {um : Nat} (hI : MI nw bf sh um) : hiM (kpB nw bf um) (kpM um + 1) = ((amM nw 0, amM nw 37) :: hiM bf um).take 4 := by
  obtain ⟨⟨h1, h2⟩, ⟨h3, h4⟩, hN, hB, hS, hu, hz, hbz⟩ := hI
  have hk := kpM_le hu
  have hku : kpM um + 1 = min (um + 1) 4 := by unfold kpM; split <;> omega
  apply List.ext_getElem?
  intro k
  rw [hiM, List.getElem?_map]
  by_cases hk2 : k < kpM um + 1
  · rw [List.getElem?_range hk2, List.getElem?_take_of_lt (by omega), Option.map_some]
    rcases Nat.eq_zero_or_pos k with rfl | hk0
    · rw [List.getElem?_cons_zero]
      have e : kpM um + 1 - 1 - 0 = kpM um := by omega
      rw [e]
      have f0 : amM (fun x => kpB nw bf um (74 * kpM um + x)) 0 = amM nw 0 := amM_cong (Or.inl rfl) (by show kpB nw bf um (74 * kpM um + 0) ≤ 6; rw [kpB_new _ _ _ _ (by omega)]; exact h2) (fun x hx => kpB_new nw bf um x hx)
      have f1 : amM (fun x => kpB nw bf um (74 * kpM um + x)) 37 = amM nw 37 := amM_cong (Or.inr rfl) (by show kpB nw bf um (74 * kpM um + 37) ≤ 6; rw [kpB_new _ _ _ _ (by omega)]; exact h4) (fun x hx => kpB_new nw bf um x hx)
      rw [f0, f1]
    · obtain ⟨j, rfl⟩ : ∃ j, k = j + 1 := ⟨k - 1, by omega⟩
      have ht : kpM um + 1 - 1 - (j + 1) < kpM um := by omega
      have eq : kpM um + 1 - 1 - (j + 1) + (um - kpM um) = um - 1 - j := by omega
      rw [List.getElem?_cons_succ, hiM, List.getElem?_map, List.getElem?_range (show j < um by omega), Option.map_some]
      have hold : ∀ x, x < 74 → kpB nw bf um (74 * (kpM um + 1 - 1 - (j + 1)) + x) = bf (74 * (um - 1 - j) + x) := fun x hx => by rw [kpB_old nw bf hu ht hx, eq]
      have hb := hbz (um - 1 - j) (by omega)
      have f0 : amM (fun x => kpB nw bf um (74 * (kpM um + 1 - 1 - (j + 1)) + x)) 0 = amM (fun x => bf (74 * (um - 1 - j) + x)) 0 := amM_cong (Or.inl rfl) (by show kpB nw bf um (_ + 0) ≤ 6; rw [hold 0 (by omega)]; exact (hb 0 (Or.inl rfl)).1.2) hold
      have f1 : amM (fun x => kpB nw bf um (74 * (kpM um + 1 - 1 - (j + 1)) + x)) 37 = amM (fun x => bf (74 * (um - 1 - j) + x)) 37 := amM_cong (Or.inr rfl) (by show kpB nw bf um (_ + 37) ≤ 6; rw [hold 37 (by omega)]; exact (hb 37 (Or.inr rfl)).1.2) hold
      rw [f0, f1]
  · rw [List.getElem?_eq_none (l := List.range (kpM um + 1)) (by simp; omega), Option.map_none, List.getElem?_eq_none (by simp [hiM]; omega)]
/-- the kept rows stay good -/
theorem MI_keep {nw bf sh : Nat → Nat} {um : Nat} (hI : MI nw bf sh um) {nw' : Nat → Nat} (h1 : 1 ≤ nw' 0 ∧ nw' 0 ≤ 6) (h3 : 1 ≤ nw' 37 ∧ nw' 37 ≤ 6) (hN' : ∀ k, nw' k ≤ 9) (hz' : ∀ b, b = 0 ∨ b = 37 → ∀ i j, i < 6 → j < 6 → ¬ (i < nw' b ∧ j < nw' b) → nw' (b + (1 + 6 * i + j)) = 0) : MI nw' (kpB nw bf um) sh (kpM um + 1) := by
  obtain ⟨⟨g1, g2⟩, ⟨g3, g4⟩, hN, hB, hS, hu, hz, hbz⟩ := hI
  have hk := kpM_le hu
  refine ⟨h1, h3, hN', fun k => ?_, hS, by omega, hz', fun t ht b hb => ?_⟩
  · unfold kpB
    rw [cpB_at]
    split
    · exact hN _
    · unfold kpS4
      split
      · rw [shB_at]; split
        · exact hB _
        · exact hB _
      · exact hB _
  · by_cases e : t = kpM um
    · subst e
      rw [kpB_new nw bf um b (by omega)]
      refine ⟨by rcases hb with rfl | rfl; exact ⟨g1, g2⟩; exact ⟨g3, g4⟩, fun i j hi hj hij => ?_⟩
      rw [show 74 * kpM um + b + (1 + 6 * i + j) = 74 * kpM um + (b + (1 + 6 * i + j)) by omega, kpB_new nw bf um _ (by omega)]
      exact hz b hb i j hi hj hij
    · have ht2 : t < kpM um := by omega
      have hku : kpM um ≤ um := by unfold kpM; split <;> omega
      have hd : t + (um - kpM um) < um := by omega
      obtain ⟨q1, q2⟩ := hbz (t + (um - kpM um)) hd b hb
      rw [kpB_old nw bf hu ht2 (show b < 74 by omega)]
      refine ⟨q1, fun i j hi hj hij => ?_⟩
      rw [show 74 * t + b + (1 + 6 * i + j) = 74 * t + (b + (1 + 6 * i + j)) by omega, kpB_old nw bf hu ht2 (by omega), show 74 * (t + (um - kpM um)) + (b + (1 + 6 * i + j)) = 74 * (t + (um - kpM um)) + b + (1 + 6 * i + j) by omega]
      exact q2 i j hi hj hij
theorem asM_keep {nw bf sh : Nat → Nat} {um : Nat} (hI : MI nw bf sh um) (nw' : Nat → Nat) {x y : AM} (hx : amM nw' 0 = x) (hy : amM nw' 37 = y) : asM nw' (kpB nw bf um) sh (kpM um + 1) = (x, y, kpS (asM nw bf sh um), sh) := by
  unfold asM kpS
  rw [hiM_keep hI, hx, hy]
theorem hd_X6_in : yX6_in.cls ≠ "java/lang/invoke/MethodHandle" ∧ yX6_in.cls ≠ "java/lang/invoke/VarHandle" ∧ (parseMethodDescriptor yX6_in.desc).map (fun d => d.parameters.length) = some 3 := by decide +kernel
theorem hd_X6_at : yX6_at.cls ≠ "java/lang/invoke/MethodHandle" ∧ yX6_at.cls ≠ "java/lang/invoke/VarHandle" ∧ (parseMethodDescriptor yX6_at.desc).map (fun d => d.parameters.length) = some 2 := by decide +kernel
theorem hd_X6_has : yX6_has.cls ≠ "java/lang/invoke/MethodHandle" ∧ yX6_has.cls ≠ "java/lang/invoke/VarHandle" ∧ (parseMethodDescriptor yX6_has.desc).map (fun d => d.parameters.length) = some 2 := by decide +kernel
theorem hd_X6_ones : yX6_ones.cls ≠ "java/lang/invoke/MethodHandle" ∧ yX6_ones.cls ≠ "java/lang/invoke/VarHandle" ∧ (parseMethodDescriptor yX6_ones.desc).map (fun d => d.parameters.length) = some 1 := by decide +kernel
theorem hd_X6_common : yX6_common.cls ≠ "java/lang/invoke/MethodHandle" ∧ yX6_common.cls ≠ "java/lang/invoke/VarHandle" ∧ (parseMethodDescriptor yX6_common.desc).map (fun d => d.parameters.length) = some 2 := by decide +kernel
theorem hd_X6_rowAt : yX6_rowAt.cls ≠ "java/lang/invoke/MethodHandle" ∧ yX6_rowAt.cls ≠ "java/lang/invoke/VarHandle" ∧ (parseMethodDescriptor yX6_rowAt.desc).map (fun d => d.parameters.length) = some 2 := by decide +kernel
theorem hd_X6_isState : yX6_isState.cls = RX6 ∧ yX6_isState.cls ≠ "java/lang/invoke/MethodHandle" ∧ yX6_isState.cls ≠ "java/lang/invoke/VarHandle" ∧ (parseMethodDescriptor yX6_isState.desc).map (fun d => d.parameters.length) = some 1 := by decide +kernel
theorem hd_X6_size : yX6_size.cls = RX6 ∧ yX6_size.cls ≠ "java/lang/invoke/MethodHandle" ∧ yX6_size.cls ≠ "java/lang/invoke/VarHandle" ∧ (parseMethodDescriptor yX6_size.desc).map (fun d => d.parameters.length) = some 0 := by decide +kernel
theorem hd_X6_entry : yX6_entry.cls = RX6 ∧ yX6_entry.cls ≠ "java/lang/invoke/MethodHandle" ∧ yX6_entry.cls ≠ "java/lang/invoke/VarHandle" ∧ (parseMethodDescriptor yX6_entry.desc).map (fun d => d.parameters.length) = some 2 := by decide +kernel
theorem hd_X6_keeps : yX6_keeps.cls = RX6 ∧ yX6_keeps.cls ≠ "java/lang/invoke/MethodHandle" ∧ yX6_keeps.cls ≠ "java/lang/invoke/VarHandle" ∧ (parseMethodDescriptor yX6_keeps.desc).map (fun d => d.parameters.length) = some 0 := by decide +kernel
