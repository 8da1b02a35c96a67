/-! words of the thirtieth part: the two states at the law's start and at its loop -/
abbrev fa0 : Nat → Nat := fillF (rs 2) 1 (rs 2) (fun _ => 0)
abbrev cs0 : CS := (rs 2, fa0, rs 2, fa0, 0, 0, (fun _ => 1), (fun _ _ => 0), (fun _ => 0))
def nw00 : Nat → Nat := updN (updN (updN (updN (updN (fun _ => 0) 0 2) (1 + 6 * 0 + 0) 1) (1 + 6 * 0 + 1) 1) (1 + 6 * 1 + 0) 1) (1 + 6 * 1 + 1) 1
abbrev nwI0 : Nat → Nat := svB 37 nw00
theorem nw00_at (x : Nat) : nw00 x = if x = 0 then 2 else if x = 1 ∨ x = 2 ∨ x = 7 ∨ x = 8 then 1 else 0 := by
  unfold nw00
  simp only [updN]
  by_cases h0 : x = 0
  · rw [if_pos h0, if_neg (by omega), if_neg (by omega), if_neg (by omega), if_neg (by omega), if_pos h0]
  · rw [if_neg h0]
    by_cases h : x = 1 ∨ x = 2 ∨ x = 7 ∨ x = 8
    · rw [if_pos h]
      rcases h with h | h | h | h <;> subst h <;> rfl
    · rw [if_neg h, if_neg (by omega), if_neg (by omega), if_neg (by omega), if_neg (by omega), if_neg h0]
theorem nwI0_lo {x : Nat} (h : x < 37) : nwI0 x = nw00 x := by show svB 37 nw00 x = _; rw [svB_at nw00 37 (by omega), if_neg (by omega)]
theorem nwI0_hi {x : Nat} (h : x < 37) : nwI0 (37 + x) = nw00 x := by show svB 37 nw00 (37 + x) = _; rw [svB_at nw00 37 (by omega), if_pos (by omega), show 37 + x - 37 = x by omega]
theorem nw00_e {i j : Nat} (hi : i < 6) (hj : j < 6) : nw00 (1 + 6 * i + j) = if i < 2 ∧ j < 2 then 1 else 0 := by
  rw [nw00_at, if_neg (by omega)]
  by_cases h : i < 2 ∧ j < 2
  · rw [if_pos h, if_pos (by omega)]
  · rw [if_neg h, if_neg (by omega)]
theorem MI_0 : MI nwI0 (fun _ => 0) (fun _ => 0) 0 := by
  have e0 : nwI0 0 = 2 := by rw [nwI0_lo (by omega), nw00_at, if_pos rfl]
  have e37 : nwI0 37 = 2 := by have := nwI0_hi (x := 0) (by omega); rw [Nat.add_zero] at this; rw [this, nw00_at, if_pos rfl]
  refine ⟨by rw [e0]; omega, by rw [e37]; omega, fun k => ?_, fun _ => Nat.zero_le _, fun _ => Nat.zero_le _, Nat.zero_le _, fun b hb i j hi hj hij => ?_, fun t ht => absurd ht (Nat.not_lt_zero t)⟩
  · have h : ∀ x, nw00 x ≤ 9 := fun x => by rw [nw00_at]; split; omega; split <;> omega
    show svB 37 nw00 k ≤ 9
    rw [svB_at nw00 37 (by omega)]
    split
    · exact h _
    · exact h _
  · rcases hb with rfl | rfl
    · rw [e0] at hij
      rw [Nat.zero_add, nwI0_lo (by omega), nw00_e hi hj, if_neg hij]
    · rw [e37] at hij
      rw [nwI0_hi (by omega), nw00_e hi hj, if_neg hij]
theorem am_0 : amM nwI0 0 = amB (rs 2) fa0 := by
  have e0 : nwI0 0 = 2 := by rw [nwI0_lo (by omega), nw00_at, if_pos rfl]
  have er : rs 2 = 2 := rs_id (by omega) (by omega)
  refine amM_ext (by rw [e0, er]) (fun i j => ?_)
  rw [mv_fill (rs_in 2).2, er]
  by_cases h : i < 2 ∧ j < 2
  · rw [if_pos h, if_pos h, Nat.zero_add, nwI0_lo (by omega), nw00_e (by omega) (by omega), if_pos h]
  · rw [if_neg h, if_neg h]
theorem am_37 : amM nwI0 37 = amB (rs 2) fa0 := by
  have e37 : nwI0 37 = 2 := by have := nwI0_hi (x := 0) (by omega); rw [Nat.add_zero] at this; rw [this, nw00_at, if_pos rfl]
  have er : rs 2 = 2 := rs_id (by omega) (by omega)
  refine amM_ext (by rw [e37, er]) (fun i j => ?_)
  rw [mv_fill (rs_in 2).2, er]
  by_cases h : i < 2 ∧ j < 2
  · rw [if_pos h, if_pos h, nwI0_hi (by omega), nw00_e (by omega) (by omega), if_pos h]
  · rw [if_neg h, if_neg h]
theorem BI_0 : BIc cs0 := by
  have er : rs 2 = 2 := rs_id (by omega) (by omega)
  have h9 : ∀ i j, mv (rs 2) fa0 i j ≤ 9 := fun i j => by rw [mv_fill (rs_in 2).2]; split <;> omega
  refine ⟨rs_in 2, rs_in 2, h9, h9, by show 0 < 4; omega, by show 0 ≤ 4; omega, fun x _ => ⟨Nat.le_refl 1, by show 1 ≤ 6; omega⟩, fun x _ i j => ?_, fun _ => Nat.zero_le _⟩
  show mv 1 (fun _ => 0) i j ≤ 9
  unfold mv
  split
  · exact Nat.zero_le _
  · exact Nat.zero_le _
/-- what holds of the two states at the head of the loop -/
def lwI (u : CS × SC) (v : MS × MC) : Prop := BIc u.1 ∧ MI v.1.1 v.1.2.1 v.1.2.2.1 v.1.2.2.2 ∧ asB u.1 = asM v.1.1 v.1.2.1 v.1.2.2.1 v.1.2.2.2
theorem lwI_0 (x : SC) (c : MC) : lwI (cs0, x) ((nwI0, (fun _ => 0), (fun _ => 0), 0), c) := by
  refine ⟨BI_0, MI_0, ?_⟩
  show (amB (rs 2) fa0, amB (rs 2) fa0, hiB 0 0 (fun _ => 1) (fun _ _ => 0), (fun _ => 0)) = (amM nwI0 0, amM nwI0 37, hiM (fun _ => 0) 0, (fun _ => 0))
  rw [am_0, am_37]
  rfl
theorem lwE {u : CS × SC} {v : MS × MC} (h : lwI u v) : u.1.1 = v.1.1 0 ∧ mv u.1.1 u.1.2.1 = rvV v.1.1 0 ∧ u.1.2.2.1 = v.1.1 37 ∧ mv u.1.2.2.1 u.1.2.2.2.1 = rvV v.1.1 37 := by
  have e := h.2.2
  have e1 : (u.1.1, mv u.1.1 u.1.2.1) = (v.1.1 0, rvV v.1.1 0) := congrArg (fun s : AS => s.1) e
  have e2 : (u.1.2.2.1, mv u.1.2.2.1 u.1.2.2.2.1) = (v.1.1 37, rvV v.1.1 37) := congrArg (fun s : AS => s.2.1) e
  exact ⟨congrArg (fun z : AM => z.1) e1, congrArg (fun z : AM => z.2) e1, congrArg (fun z : AM => z.1) e2, congrArg (fun z : AM => z.2) e2⟩
theorem lwCC {sp : AS → Int32 × AS} {u u' : CS × SC} {v v' : MS × MC} {r r' : Int32} (h : lwI u v) (h1 : spP (sp (asB u.1)) r u') (h2 : mcP (sp (asM v.1.1 v.1.2.1 v.1.2.2.1 v.1.2.2.2)) r' v') : r = r' ∧ lwI u' v' := by
  obtain ⟨a1, a2, a3⟩ := h1
  obtain ⟨b1, b2, b3⟩ := h2
  rw [h.2.2] at a1 a2
  exact ⟨a1.trans b1.symm, a3, b3, a2.trans b2.symm⟩
theorem lw_head {L t : Nat} (hL : L ≤ 2048) (ht : t ≤ L / 4) : (nI L - nI 4 < nI (4 * t)) ↔ ¬ t < L / 4 := by
  rw [Int32.lt_iff_toInt_lt, pk_sub_toInt (by omega) (by decide), nI_toInt (by omega)]
  omega
abbrev lwWd (G : gG) (ad md : Nat → Nat) (u : CS × SC) (lp : Nat → Int64) (v : MS × MC) : va_W := BC G ad lp u ++ (MSC G md v ++ [])
