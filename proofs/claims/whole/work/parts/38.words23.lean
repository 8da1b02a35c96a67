/-! words of the twenty-third part: the divisors of all minors form a chain -/
theorem dE_z {ρ γ : Type} {e : ρ → γ → Int} {r : ρ} : ∀ (C : List γ) (F : List γ → Int), (∀ c ∈ C, e r c = 0) → dE e r F C = 0
  | [], _, _ => rfl
  | c :: C, F, h => by
    show e r c * F C - dE e r (fun l => F (c :: l)) C = 0
    rw [dE_z C (fun l => F (c :: l)) (fun x hx => h x (List.mem_cons_of_mem c hx)), h c List.mem_cons_self]
    grind
theorem dD_zc {ρ γ : Type} {e : ρ → γ → Int} {j : γ} : ∀ (R : List ρ) (C : List γ), (∀ r ∈ R, e r j = 0) → dD e R (j :: C) = 0
  | [], _, _ => rfl
  | r :: R, C, h => by
    show e r j * dD e R C - dE e r (fun l => dD e R (j :: l)) C = 0
    have h1 : (fun l => dD e R (j :: l)) = fun _ => 0 := by
      funext l
      exact dD_zc R l (fun x hx => h x (List.mem_cons_of_mem r hx))
    rw [h1, dE_0, h r List.mem_cons_self]
    grind
theorem dE_dvd {ρ γ : Type} {e : ρ → γ → Int} {r : ρ} {g : Int} : ∀ (C : List γ) (F : List γ → Int), (∀ c ∈ C, ∀ l : List γ, l.length + 1 = C.length → (∀ x ∈ l, x ∈ C) → g ∣ e r c * F l) → g ∣ dE e r F C
  | [], _, _ => Int.dvd_zero g
  | c :: C, F, h => by
    show g ∣ e r c * F C - dE e r (fun l => F (c :: l)) C
    refine Int.dvd_sub (h c List.mem_cons_self C (by simp) (fun x hx => List.mem_cons_of_mem c hx)) (dE_dvd C (fun l => F (c :: l)) (fun c' hc' l hl hm => h c' (List.mem_cons_of_mem c hc') (c :: l) (by simp; omega) (fun x hx => ?_)))
    rcases List.mem_cons.mp hx with q | q
    · rw [q]; exact List.mem_cons_self
    · exact List.mem_cons_of_mem c (hm x q)
def PD (A : Nat → Nat → Int) (Rs Cs : List Nat) (k : Nat) (g : Int) : Prop := ∀ I C : List Nat, I.length = k → C.length = k → (∀ x ∈ I, x ∈ Rs) → (∀ x ∈ C, x ∈ Cs) → g ∣ dD A I C
def roA (A : Nat → Nat → Int) (i : Nat) (q : Nat → Int) : Nat → Nat → Int := fun r c => A r c + q r * A i c
def coA (A : Nat → Nat → Int) (j : Nat) (q : Nat → Int) : Nat → Nat → Int := fun r c => A r c + q c * A r j
theorem PD_row {A : Nat → Nat → Int} {Rs Cs : List Nat} {k : Nat} {g : Int} {i : Nat} (q : Nat → Int) (hi : i ∈ Rs) (h : PD A Rs Cs k g) : PD (roA A i q) Rs Cs k g := by
  have key : ∀ (C : List Nat), C.length = k → (∀ x ∈ C, x ∈ Cs) → ∀ (J I : List Nat), I.length + J.length = k → (∀ x ∈ I, x ∈ Rs) → (∀ x ∈ J, x ∈ Rs) → g ∣ dD (fun (r : Nat → Int) (c : Nat) => r c) (I.map A ++ J.map (roA A i q)) C := by
    intro C hC hCs J
    induction J with
    | nil =>
      intro I hI hIR _
      have e := dD_map (e := fun (r : Nat → Int) (c : Nat) => r c) A (fun c : Nat => c) I C
      rw [List.map_id'] at e
      rw [List.map_nil, List.append_nil, e]
      exact h I C (by simpa using hI) hC hIR hCs
    | cons j J ih =>
      intro I hI hIR hJR
      have e := dD_row (e := fun (r : Nat → Int) (c : Nat) => r c) (w := roA A i q j) (u := A j) (v := A i) (p := 1) (q := q j) (J.map (roA A i q)) (I.map A) C (fun c _ => by show A j c + q j * A i c = 1 * A j c + q j * A i c; grind)
      rw [List.map_cons, e]
      have h1 := ih (I ++ [j]) (by simp at hI ⊢; omega) (fun x hx => by
        rcases List.mem_append.mp hx with z | z
        · exact hIR x z
        · rw [List.mem_singleton.mp z]; exact hJR j List.mem_cons_self) (fun x hx => hJR x (List.mem_cons_of_mem j hx))
      have h2 := ih (I ++ [i]) (by simp at hI ⊢; omega) (fun x hx => by
        rcases List.mem_append.mp hx with z | z
        · exact hIR x z
        · rw [List.mem_singleton.mp z]; exact hi) (fun x hx => hJR x (List.mem_cons_of_mem j hx))
      rw [List.map_append, List.append_assoc] at h1 h2
      exact Int.dvd_add (Int.dvd_mul_of_dvd_right h1) (Int.dvd_mul_of_dvd_right h2)
  intro I C hI hC hIR hCs
  have := key C hC hCs I [] (by simpa using hI) (fun x hx => absurd hx List.not_mem_nil) hIR
  rw [List.map_nil, List.nil_append] at this
  have e := dD_map (e := fun (r : Nat → Int) (c : Nat) => r c) (roA A i q) (fun c : Nat => c) I C
  rw [List.map_id'] at e
  rw [e] at this
  exact this
theorem dD_col {ρ γ : Type} {e : ρ → γ → Int} {w u v : γ} {p q : Int} (h : ∀ r, e r w = p * e r u + q * e r v) : ∀ (R : List ρ) (X Y : List γ), dD e R (X ++ w :: Y) = p * dD e R (X ++ u :: Y) + q * dD e R (X ++ v :: Y)
  | [], X, Y => by cases X <;> (show (0 : Int) = p * 0 + q * 0; grind)
  | r :: R, X, Y => dE_col Y (h r) X (dD e R) (fun X' Y' => dD_col h R X' Y')
theorem PD_col {A : Nat → Nat → Int} {Rs Cs : List Nat} {k : Nat} {g : Int} {j : Nat} (q : Nat → Int) (hj : j ∈ Cs) (h : PD A Rs Cs k g) : PD (coA A j q) Rs Cs k g := by
  have key : ∀ (I : List Nat), I.length = k → (∀ x ∈ I, x ∈ Rs) → ∀ (J C : List Nat), C.length + J.length = k → (∀ x ∈ C, x ∈ Cs) → (∀ x ∈ J, x ∈ Cs) → g ∣ dD (fun (r : Nat) (c : Nat → Int) => c r) I (C.map (fun c r => A r c) ++ J.map (fun c r => coA A j q r c)) := by
    intro I hI hIR J
    induction J with
    | nil =>
      intro C hC hCs _
      have e := dD_map (e := fun (r : Nat) (c : Nat → Int) => c r) (fun r : Nat => r) (fun c r => A r c) I C
      rw [List.map_id'] at e
      rw [List.map_nil, List.append_nil, e]
      exact h I C hI (by simpa using hC) hIR hCs
    | cons b J ih =>
      intro C hC hCs hJ
      have e := dD_col (e := fun (r : Nat) (c : Nat → Int) => c r) (w := fun r => coA A j q r b) (u := fun r => A r b) (v := fun r => A r j) (p := 1) (q := q b) (fun r => by show A r b + q b * A r j = 1 * A r b + q b * A r j; grind) I (C.map (fun c r => A r c)) (J.map (fun c r => coA A j q r c))
      rw [List.map_cons, e]
      have h1 := ih (C ++ [b]) (by simp at hC ⊢; omega) (fun x hx => by
        rcases List.mem_append.mp hx with z | z
        · exact hCs x z
        · rw [List.mem_singleton.mp z]; exact hJ b List.mem_cons_self) (fun x hx => hJ x (List.mem_cons_of_mem b hx))
      have h2 := ih (C ++ [j]) (by simp at hC ⊢; omega) (fun x hx => by
        rcases List.mem_append.mp hx with z | z
        · exact hCs x z
        · rw [List.mem_singleton.mp z]; exact hj) (fun x hx => hJ x (List.mem_cons_of_mem b hx))
      rw [List.map_append, List.append_assoc] at h1 h2
      exact Int.dvd_add (Int.dvd_mul_of_dvd_right h1) (Int.dvd_mul_of_dvd_right h2)
  intro I C hI hC hIR hCs
  have := key I hI hIR C [] (by simpa using hC) (fun x hx => absurd hx List.not_mem_nil) hCs
  rw [List.map_nil, List.nil_append] at this
  have e := dD_map (e := fun (r : Nat) (c : Nat → Int) => c r) (fun r : Nat => r) (fun c r => coA A j q r c) I C
  rw [List.map_id'] at e
  rw [e] at this
  exact this
def SE (A B : Nat → Nat → Int) (Rs Cs : List Nat) : Prop := ∀ k g, PD A Rs Cs k g ↔ PD B Rs Cs k g
theorem SE_row {A : Nat → Nat → Int} {Rs Cs : List Nat} {i : Nat} (q : Nat → Int) (hi : i ∈ Rs) (h0 : q i = 0) : SE A (roA A i q) Rs Cs := fun k g => ⟨PD_row q hi, fun h => by
  have h1 := PD_row (fun r => -q r) hi h
  have e : roA (roA A i q) i (fun r => -q r) = A := by
    funext r c
    show A r c + q r * A i c + -q r * (A i c + q i * A i c) = A r c
    rw [h0]; grind
  rw [e] at h1
  exact h1⟩
theorem SE_col {A : Nat → Nat → Int} {Rs Cs : List Nat} {j : Nat} (q : Nat → Int) (hj : j ∈ Cs) (h0 : q j = 0) : SE A (coA A j q) Rs Cs := fun k g => ⟨PD_col q hj, fun h => by
  have h1 := PD_col (fun r => -q r) hj h
  have e : coA (coA A j q) j (fun r => -q r) = A := by
    funext r c
    show A r c + q c * A r j + -q c * (A r j + q j * A r j) = A r c
    rw [h0]; grind
  rw [e] at h1
  exact h1⟩
theorem SE.tr {A B E : Nat → Nat → Int} {Rs Cs : List Nat} (h1 : SE A B Rs Cs) (h2 : SE B E Rs Cs) : SE A E Rs Cs := fun k g => (h1 k g).trans (h2 k g)
def CP (A : Nat → Nat → Int) (Rs Cs : List Nat) (i j : Nat) : Prop := i ∈ Rs ∧ j ∈ Cs ∧ A i j ≠ 0 ∧ (∀ c ∈ Cs, c ≠ j → A i c = 0) ∧ (∀ r ∈ Rs, r ≠ i → A r j = 0) ∧ ∀ r ∈ Rs, ∀ c ∈ Cs, A i j ∣ A r c
theorem rem_lt {a b : Int} (hb : b ≠ 0) (h : ¬ b ∣ a) : a + -(a / b) * b ≠ 0 ∧ (a + -(a / b) * b).natAbs < b.natAbs := by
  have e : a + -(a / b) * b = a % b := by
    have := Int.emod_add_mul_ediv a b
    grind
  rw [e]
  have h1 := Int.emod_nonneg a hb
  have h2 := Int.emod_lt a hb
  refine ⟨fun q => h (Int.dvd_of_emod_eq_zero q), ?_⟩
  omega
theorem red_col {A : Nat → Nat → Int} {Rs Cs : List Nat} {i j c : Nat} (hj : j ∈ Cs) (h0 : A i j ≠ 0) (hd : ¬ A i j ∣ A i c) : ∃ B, SE A B Rs Cs ∧ B i c ≠ 0 ∧ (B i c).natAbs < (A i j).natAbs := by
  have hne : c ≠ j := fun q => hd (by rw [q]; exact Int.dvd_refl _)
  refine ⟨coA A j (fun x => if x = c then -(A i c / A i j) else 0), SE_col _ hj (if_neg (fun q => hne q.symm)), ?_⟩
  have e : coA A j (fun x => if x = c then -(A i c / A i j) else 0) i c = A i c + -(A i c / A i j) * A i j := by
    show A i c + (if c = c then -(A i c / A i j) else 0) * A i j = _
    rw [if_pos rfl]
  rw [e]
  exact rem_lt h0 hd
theorem red_row {A : Nat → Nat → Int} {Rs Cs : List Nat} {i j r : Nat} (hi : i ∈ Rs) (h0 : A i j ≠ 0) (hd : ¬ A i j ∣ A r j) : ∃ B, SE A B Rs Cs ∧ B r j ≠ 0 ∧ (B r j).natAbs < (A i j).natAbs := by
  have hne : r ≠ i := fun q => hd (by rw [q]; exact Int.dvd_refl _)
  refine ⟨roA A i (fun x => if x = r then -(A r j / A i j) else 0), SE_row _ hi (if_neg (fun q => hne q.symm)), ?_⟩
  have e : roA A i (fun x => if x = r then -(A r j / A i j) else 0) r j = A r j + -(A r j / A i j) * A i j := by
    show A r j + (if r = r then -(A r j / A i j) else 0) * A i j = _
    rw [if_pos rfl]
  rw [e]
  exact rem_lt h0 hd
theorem div_z {a b : Int} (h : b ∣ a) : a + -(a / b) * b = 0 := by
  have := Int.ediv_mul_cancel h
  grind
theorem pivot {Rs Cs : List Nat} : ∀ (N : Nat) (A : Nat → Nat → Int) (i j : Nat), i ∈ Rs → j ∈ Cs → A i j ≠ 0 → (A i j).natAbs = N → ∃ B i' j', SE A B Rs Cs ∧ CP B Rs Cs i' j' := by
  intro N
  induction N using Nat.strongRecOn with
  | _ N ih =>
    intro A i j hi hj h0 hN
    by_cases h1 : ∀ c ∈ Cs, A i j ∣ A i c
    · by_cases h2 : ∀ r ∈ Rs, A i j ∣ A r j
      · have s1 : SE A (coA A j (fun c => if c = j then 0 else -(A i c / A i j))) Rs Cs := SE_col _ hj (if_pos rfl)
        generalize hA1 : coA A j (fun c => if c = j then 0 else -(A i c / A i j)) = A1 at s1
        have e1 : ∀ r, A1 r j = A r j := fun r => by
          rw [← hA1]
          show A r j + (if j = j then 0 else -(A i j / A i j)) * A r j = A r j
          rw [if_pos rfl]; grind
        have e2 : ∀ c ∈ Cs, c ≠ j → A1 i c = 0 := fun c hc hne => by
          rw [← hA1]
          show A i c + (if c = j then 0 else -(A i c / A i j)) * A i j = 0
          rw [if_neg hne]
          exact div_z (h1 c hc)
        have s2 : SE A1 (roA A1 i (fun r => if r = i then 0 else -(A1 r j / A1 i j))) Rs Cs := SE_row _ hi (if_pos rfl)
        generalize hA2 : roA A1 i (fun r => if r = i then 0 else -(A1 r j / A1 i j)) = A2 at s2
        have e3 : ∀ c, A2 i c = A1 i c := fun c => by
          rw [← hA2]
          show A1 i c + (if i = i then 0 else -(A1 i j / A1 i j)) * A1 i c = A1 i c
          rw [if_pos rfl]; grind
        have e4 : ∀ r ∈ Rs, r ≠ i → A2 r j = 0 := fun r hr hne => by
          rw [← hA2]
          show A1 r j + (if r = i then 0 else -(A1 r j / A1 i j)) * A1 i j = 0
          rw [if_neg hne]
          exact div_z (by rw [e1, e1]; exact h2 r hr)
        have e5 : A2 i j = A i j := by rw [e3, e1]
        by_cases h4 : ∀ r ∈ Rs, ∀ c ∈ Cs, A2 i j ∣ A2 r c
        · exact ⟨A2, i, j, s1.tr s2, hi, hj, by rw [e5]; exact h0, (fun c hc hne => by rw [e3]; exact e2 c hc hne), e4, h4⟩
        · obtain ⟨r, hr⟩ := Classical.not_forall.mp h4
          obtain ⟨hr, hr2⟩ := Classical.not_forall.mp hr
          obtain ⟨c, hc⟩ := Classical.not_forall.mp hr2
          obtain ⟨hc, hd⟩ := Classical.not_forall.mp hc
          have hcj : c ≠ j := fun q => by
            rw [q] at hd
            by_cases z : r = i
            · rw [z] at hd; exact hd (Int.dvd_refl _)
            · rw [e4 r hr z] at hd; exact hd (Int.dvd_zero _)
          have hri : r ≠ i := fun q => by
            rw [q, e3 c, e2 c hc hcj] at hd
            exact hd (Int.dvd_zero _)
          have s3 : SE A2 (roA A2 r (fun x => if x = i then 1 else 0)) Rs Cs := SE_row _ hr (if_neg hri)
          generalize hA3 : roA A2 r (fun x => if x = i then 1 else 0) = A3 at s3
          have e6 : ∀ x, A3 i x = A2 i x + A2 r x := fun x => by
            rw [← hA3]
            show A2 i x + (if i = i then 1 else 0) * A2 r x = _
            rw [if_pos rfl]; grind
          have e7 : A3 i j = A i j := by rw [e6, e5, e4 r hr hri]; grind
          have e8 : A3 i c = A2 r c := by rw [e6, e3, e2 c hc hcj]; grind
          obtain ⟨B, b1, b2, b3⟩ := red_col (A := A3) (Rs := Rs) (i := i) (c := c) hj (by rw [e7]; exact h0) (by rw [e7, e8, ← e5]; exact hd)
          obtain ⟨B', i', j', c1, c2⟩ := ih _ (by rw [e7, hN] at b3; exact b3) B i c hi hc b2 rfl
          exact ⟨B', i', j', (((s1.tr s2).tr s3).tr b1).tr c1, c2⟩
      · obtain ⟨r, hr⟩ := Classical.not_forall.mp h2
        obtain ⟨hr, hd⟩ := Classical.not_forall.mp hr
        obtain ⟨B, b1, b2, b3⟩ := red_row (Cs := Cs) hi h0 hd
        obtain ⟨B', i', j', c1, c2⟩ := ih _ (by rw [hN] at b3; exact b3) B r j hr hj b2 rfl
        exact ⟨B', i', j', b1.tr c1, c2⟩
    · obtain ⟨c, hc⟩ := Classical.not_forall.mp h1
      obtain ⟨hc, hd⟩ := Classical.not_forall.mp hc
      obtain ⟨B, b1, b2, b3⟩ := red_col (Rs := Rs) hj h0 hd
      obtain ⟨B', i', j', c1, c2⟩ := ih _ (by rw [hN] at b3; exact b3) B i c hi hc b2 rfl
      exact ⟨B', i', j', b1.tr c1, c2⟩
/-- what divides all minors around a clean pivot -/
theorem CP_minors {B : Nat → Nat → Int} {Rs Cs : List Nat} {i j : Nat} (h : CP B Rs Cs i j) (k : Nat) (g : Int) : PD B Rs Cs (k + 1) g ↔ ∀ I C : List Nat, I.length = k → C.length = k → (∀ x ∈ I, x ∈ Rs.filter (fun x => x ≠ i)) → (∀ x ∈ C, x ∈ Cs.filter (fun x => x ≠ j)) → g ∣ B i j * dD B I C := by
  obtain ⟨hi, hj, h0, hr0, hc0, hdv⟩ := h
  have mR : ∀ x, x ∈ Rs.filter (fun x => x ≠ i) ↔ x ∈ Rs ∧ x ≠ i := fun x => by simp
  have mC : ∀ x, x ∈ Cs.filter (fun x => x ≠ j) ↔ x ∈ Cs ∧ x ≠ j := fun x => by simp
  have hcorner : ∀ (I C : List Nat), (∀ x ∈ C, x ∈ Cs ∧ x ≠ j) → dD B (i :: I) (j :: C) = B i j * dD B I C := fun I C hC => by
    show B i j * dD B I C - dE B i (fun l => dD B I (j :: l)) C = _
    rw [dE_z C _ (fun c hc => hr0 c (hC c hc).1 (hC c hc).2)]
    grind
  constructor
  · intro hP I C hI hC hIR hCs
    have := hP (i :: I) (j :: C) (by simp [hI]) (by simp [hC]) (fun x hx => by
      rcases List.mem_cons.mp hx with q | q
      · rw [q]; exact hi
      · exact ((mR x).mp (hIR x q)).1) (fun x hx => by
      rcases List.mem_cons.mp hx with q | q
      · rw [q]; exact hj
      · exact ((mC x).mp (hCs x q)).1)
    rw [hcorner I C (fun x hx => (mC x).mp (hCs x hx))] at this
    exact this
  · intro hP I C hI hC hIR hCs
    by_cases hiI : i ∈ I
    · have pI := List.perm_cons_erase hiI
      obtain ⟨s, hs, hsp⟩ := dD_perm (e := B) pI
      rw [hsp C]
      refine Int.dvd_mul_of_dvd_right ?_
      have hIl : (I.erase i).length = k := by have := pI.length_eq; simp at this; omega
      have hIm : ∀ x ∈ I.erase i, x ∈ Rs := fun x hx => hIR x (List.mem_of_mem_erase hx)
      generalize I.erase i = I' at hIl hIm
      by_cases hjC : j ∈ C
      · have pC := List.perm_cons_erase hjC
        obtain ⟨t, ht, htp⟩ := dF_perm pC
        rw [htp (fun C => dD B (i :: I') C) (dD_csw (i :: I'))]
        refine Int.dvd_mul_of_dvd_right ?_
        have hCl : (C.erase j).length = k := by have := pC.length_eq; simp at this; omega
        have hCm : ∀ x ∈ C.erase j, x ∈ Cs := fun x hx => hCs x (List.mem_of_mem_erase hx)
        generalize C.erase j = C' at hCl hCm
        by_cases hj2 : j ∈ C'
        · rw [dF_cdup (dD_csw (e := B) (i :: I')) hj2]; exact Int.dvd_zero g
        · by_cases hi2 : i ∈ I'
          · show g ∣ dD B (i :: I') (j :: C')
            rw [dD_rdup hi2]; exact Int.dvd_zero g
          · show g ∣ dD B (i :: I') (j :: C')
            rw [hcorner I' C' (fun x hx => ⟨hCm x hx, fun q => hj2 (q ▸ hx)⟩)]
            exact hP I' C' hIl hCl (fun x hx => (mR x).mpr ⟨hIm x hx, fun q => hi2 (q ▸ hx)⟩) (fun x hx => (mC x).mpr ⟨hCm x hx, fun q => hj2 (q ▸ hx)⟩)
      · show g ∣ dE B i (dD B I') C
        rw [dE_z C _ (fun c hc => hr0 c (hCs c hc) (fun q => hjC (q ▸ hc)))]
        exact Int.dvd_zero g
    · by_cases hjC : j ∈ C
      · obtain ⟨t, ht, htp⟩ := dF_perm (List.perm_cons_erase hjC)
        rw [htp (fun C => dD B I C) (dD_csw I)]
        refine Int.dvd_mul_of_dvd_right ?_
        show g ∣ dD B I (j :: C.erase j)
        rw [dD_zc I _ (fun r hr => hc0 r (hIR r hr) (fun q => hiI (q ▸ hr)))]
        exact Int.dvd_zero g
      · cases I with
        | nil => simp at hI
        | cons r I' =>
          show g ∣ dE B r (dD B I') C
          refine dE_dvd C _ (fun c hc l hl hm => ?_)
          obtain ⟨x, hx⟩ := hdv r (hIR r List.mem_cons_self) c (hCs c hc)
          have := hP I' l (by simpa using hI) (by omega) (fun y hy => (mR y).mpr ⟨hIR y (List.mem_cons_of_mem r hy), fun q => hiI (q ▸ List.mem_cons_of_mem r hy)⟩) (fun y hy => (mC y).mpr ⟨hCs y (hm y hy), fun q => hjC (q ▸ hm y hy)⟩)
          rw [hx, show B i j * x * dD B I' l = x * (B i j * dD B I' l) by grind]
          exact Int.dvd_mul_of_dvd_right this
theorem gcd_all {S : Int → Prop} {a d : Nat} (ha : 0 < a) (h : ∀ g : Nat, (∀ x, S x → (g : Int) ∣ x) ↔ g ∣ d) (g : Nat) : (∀ x, S x → (g : Int) ∣ (a : Int) * x) ↔ g ∣ a * d := by
  constructor
  · intro hg
    have ht : 0 < Nat.gcd g a := Nat.gcd_pos_of_pos_right g ha
    obtain ⟨g', hg'⟩ := Nat.gcd_dvd_left g a
    obtain ⟨a', ha'⟩ := Nat.gcd_dvd_right g a
    have hcop : Nat.Coprime g' a' := by
      have := Nat.coprime_div_gcd_div_gcd ht
      have e1 : g / Nat.gcd g a = g' := by
        apply Nat.div_eq_of_eq_mul_right ht hg'
      have e2 : a / Nat.gcd g a = a' := by
        apply Nat.div_eq_of_eq_mul_right ht ha'
      rw [e1, e2] at this
      exact this
    have h1 : ∀ x, S x → (g' : Int) ∣ x := fun x hx => by
      have h2 := Int.natAbs_dvd_natAbs.mpr (hg x hx)
      rw [Int.natAbs_natCast, Int.natAbs_mul, Int.natAbs_natCast] at h2
      have h3 : Nat.gcd g a * g' ∣ Nat.gcd g a * (a' * x.natAbs) := by
        rw [← Nat.mul_assoc, ← ha', ← hg']; exact h2
      have h4 := Nat.dvd_of_mul_dvd_mul_left ht h3
      have h5 := Nat.Coprime.dvd_of_dvd_mul_left hcop h4
      exact Int.dvd_natAbs.mp (Int.natCast_dvd_natCast.mpr h5)
    have h6 := (h g').mp h1
    rw [hg']
    exact Nat.dvd_trans (Nat.mul_dvd_mul (Nat.dvd_refl _) h6) (Nat.mul_dvd_mul (Nat.gcd_dvd_right g a) (Nat.dvd_refl d))
  · intro hg x hx
    have h1 := (h d).mpr (Nat.dvd_refl d) x hx
    have h2 : ((a * d : Nat) : Int) ∣ (a : Int) * x := by
      rw [Int.natCast_mul]
      exact Int.mul_dvd_mul (Int.dvd_refl _) h1
    exact Int.dvd_trans (Int.natCast_dvd_natCast.mpr hg) h2
theorem chain : ∀ (n : Nat) (A : Nat → Nat → Int) (Rs Cs : List Nat), Rs.length ≤ n → ∃ d : Nat → Nat, d 0 = 1 ∧ (∀ k (g : Nat), PD A Rs Cs k (g : Int) ↔ g ∣ d k) ∧ ∀ k, d (k + 1) ^ 2 ∣ d k * d (k + 2) := by
  intro n
  induction n with
  | zero =>
    intro A Rs Cs hR
    refine ⟨fun k => if k = 0 then 1 else 0, if_pos rfl, fun k g => ?_, fun k => by show (if k + 1 = 0 then 1 else 0) ^ 2 ∣ _ * (if k + 2 = 0 then 1 else 0); rw [if_neg (by omega), if_neg (by omega)]; exact ⟨1, by simp⟩⟩
    cases k with
    | zero =>
      show _ ↔ g ∣ (if 0 = 0 then 1 else 0)
      rw [if_pos rfl]
      constructor
      · intro h
        have := h [] [] rfl rfl (fun x hx => absurd hx List.not_mem_nil) (fun x hx => absurd hx List.not_mem_nil)
        exact Int.natCast_dvd_natCast.mp this
      · intro h I C hI hC _ _
        rw [List.length_eq_zero_iff.mp hI, List.length_eq_zero_iff.mp hC]
        exact Int.natCast_dvd_natCast.mpr h
    | succ k =>
      show _ ↔ g ∣ (if k + 1 = 0 then 1 else 0)
      rw [if_neg (by omega)]
      refine ⟨fun _ => Nat.dvd_zero g, fun _ I C hI hC hIR _ => ?_⟩
      cases I with
      | nil => simp at hI
      | cons r I =>
        have := hIR r List.mem_cons_self
        rw [List.length_eq_zero_iff.mp (by omega : Rs.length = 0)] at this
        exact absurd this List.not_mem_nil
  | succ n ih =>
    intro A Rs Cs hR
    have hk0 : ∀ g : Nat, PD A Rs Cs 0 (g : Int) ↔ g ∣ 1 := fun g => by
      constructor
      · intro h
        have := h [] [] rfl rfl (fun x hx => absurd hx List.not_mem_nil) (fun x hx => absurd hx List.not_mem_nil)
        exact Int.natCast_dvd_natCast.mp this
      · intro h I C hI hC _ _
        rw [List.length_eq_zero_iff.mp hI, List.length_eq_zero_iff.mp hC]
        exact Int.natCast_dvd_natCast.mpr h
    by_cases hz : ∀ r ∈ Rs, ∀ c ∈ Cs, A r c = 0
    · refine ⟨fun k => if k = 0 then 1 else 0, if_pos rfl, fun k g => ?_, fun k => by show (if k + 1 = 0 then 1 else 0) ^ 2 ∣ _ * (if k + 2 = 0 then 1 else 0); rw [if_neg (by omega), if_neg (by omega)]; exact ⟨1, by simp⟩⟩
      cases k with
      | zero => exact hk0 g
      | succ k =>
        show PD A Rs Cs (k + 1) (g : Int) ↔ g ∣ (if k + 1 = 0 then 1 else 0)
        rw [if_neg (by omega)]
        refine ⟨fun _ => Nat.dvd_zero g, fun _ I C hI hC hIR hCs => ?_⟩
        cases I with
        | nil => simp at hI
        | cons r I =>
          show (g : Int) ∣ dE A r (dD A I) C
          rw [dE_z C _ (fun c hc => hz r (hIR r List.mem_cons_self) c (hCs c hc))]
          exact Int.dvd_zero _
    · obtain ⟨r, hr⟩ := Classical.not_forall.mp hz
      obtain ⟨hr, hr2⟩ := Classical.not_forall.mp hr
      obtain ⟨c, hc⟩ := Classical.not_forall.mp hr2
      obtain ⟨hc, h0⟩ := Classical.not_forall.mp hc
      obtain ⟨B, i, j, hSE, hCP⟩ := pivot _ A r c hr hc h0 rfl
      have hlen : (Rs.filter (fun x => x ≠ i)).length ≤ n := by
        have : (Rs.filter (fun x => x ≠ i)).length < Rs.length := List.length_filter_lt_length_iff_exists.mpr ⟨i, hCP.1, by simp⟩
        omega
      obtain ⟨d, d0, d1, d2⟩ := ih B (Rs.filter (fun x => x ≠ i)) (Cs.filter (fun x => x ≠ j)) hlen
      have ha : 0 < (B i j).natAbs := Int.natAbs_pos.mpr hCP.2.2.1
      have habs : ∀ (g x : Int), g ∣ B i j * x ↔ g ∣ ((B i j).natAbs : Int) * x := fun g x => by
        rcases Int.natAbs_eq (B i j) with q | q
        · rw [← q]
        · constructor
          · intro h
            rw [q] at h
            have h2 := Int.dvd_neg.mpr h
            rw [show -(-((B i j).natAbs : Int) * x) = ((B i j).natAbs : Int) * x by grind] at h2
            exact h2
          · intro h
            rw [q]
            have h2 := Int.dvd_neg.mpr h
            rw [show -(((B i j).natAbs : Int) * x) = -((B i j).natAbs : Int) * x by grind] at h2
            exact h2
      have hmin : ∀ k (g : Nat), PD A Rs Cs (k + 1) (g : Int) ↔ g ∣ (B i j).natAbs * d k := fun k g => by
        rw [hSE (k + 1) g, CP_minors hCP k g]
        rw [← gcd_all (S := fun x => ∃ I C : List Nat, I.length = k ∧ C.length = k ∧ (∀ x ∈ I, x ∈ Rs.filter (fun x => x ≠ i)) ∧ (∀ x ∈ C, x ∈ Cs.filter (fun x => x ≠ j)) ∧ x = dD B I C) ha (fun g => by
          rw [← d1 k g]
          exact ⟨fun h I C a b c e => h _ ⟨I, C, a, b, c, e, rfl⟩, fun h x hx => by
            obtain ⟨I, C, a, b, c, e, rfl⟩ := hx
            exact h I C a b c e⟩) g]
        exact ⟨fun h x hx => by
          obtain ⟨I, C, a, b, c, e, rfl⟩ := hx
          exact (habs _ _).mp (h I C a b c e), fun h I C a b c e => (habs _ _).mpr (h _ ⟨I, C, a, b, c, e, rfl⟩)⟩
      refine ⟨fun k => match k with | 0 => 1 | k + 1 => (B i j).natAbs * d k, rfl, fun k g => ?_, fun k => ?_⟩
      · cases k with
        | zero => exact hk0 g
        | succ k => exact hmin k g
      · cases k with
        | zero =>
          show ((B i j).natAbs * d 0) ^ 2 ∣ 1 * ((B i j).natAbs * d 1)
          have h1 : (B i j).natAbs ∣ d 1 := (d1 1 _).mp (fun I C hI hC hIR hCs => by
            obtain ⟨r, rfl⟩ := List.length_eq_one_iff.mp hI
            obtain ⟨c, rfl⟩ := List.length_eq_one_iff.mp hC
            have hr := hIR r List.mem_cons_self
            have hc := hCs c List.mem_cons_self
            rw [List.mem_filter] at hr hc
            have := hCP.2.2.2.2.2 r hr.1 c hc.1
            show _ ∣ B r c * 1 - 0
            rw [show B r c * 1 - 0 = B r c by grind]
            exact Int.natAbs_dvd.mpr this)
          rw [d0, Nat.mul_one, Nat.one_mul, Nat.pow_two]
          exact Nat.mul_dvd_mul (Nat.dvd_refl _) h1
        | succ k =>
          show ((B i j).natAbs * d (k + 1)) ^ 2 ∣ ((B i j).natAbs * d k) * ((B i j).natAbs * d (k + 2))
          obtain ⟨x, hx⟩ := d2 k
          refine ⟨x, ?_⟩
          rw [Nat.mul_mul_mul_comm, hx, Nat.mul_pow, Nat.pow_two (B i j).natAbs, Nat.mul_assoc (_ * _) (d (k + 1) ^ 2) x]
