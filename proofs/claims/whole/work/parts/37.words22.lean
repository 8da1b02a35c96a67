/-! words of the twenty-second part: determinants over lists of rows and columns -/
def dE {ρ γ : Type} (e : ρ → γ → Int) (r : ρ) : (List γ → Int) → List γ → Int
  | _, [] => 0
  | F, c :: cs => e r c * F cs - dE e r (fun l => F (c :: l)) cs
def dD {ρ γ : Type} (e : ρ → γ → Int) : List ρ → List γ → Int
  | [], [] => 1
  | [], _ :: _ => 0
  | r :: R, C => dE e r (dD e R) C
theorem dE_cong {ρ γ : Type} {e : ρ → γ → Int} {r : ρ} : ∀ (C : List γ) (F G : List γ → Int), (∀ l : List γ, l.length + 1 = C.length → (∀ x ∈ l, x ∈ C) → F l = G l) → dE e r F C = dE e r G C
  | [], _, _, _ => rfl
  | c :: C, F, G, h => by
    show e r c * F C - dE e r (fun l => F (c :: l)) C = e r c * G C - dE e r (fun l => G (c :: l)) C
    rw [h C (by simp) (fun x hx => List.mem_cons_of_mem c hx), dE_cong C (fun l => F (c :: l)) (fun l => G (c :: l)) (fun l hl hm => h (c :: l) (by simp; omega) (fun x hx => by
      rcases List.mem_cons.mp hx with q | q
      · rw [q]; exact List.mem_cons_self
      · exact List.mem_cons_of_mem c (hm x q)))]
theorem dE_lin {ρ γ : Type} {e : ρ → γ → Int} {r : ρ} {p q : Int} : ∀ (C : List γ) (F G : List γ → Int), dE e r (fun l => p * F l + q * G l) C = p * dE e r F C + q * dE e r G C
  | [], _, _ => by show (0 : Int) = p * 0 + q * 0; grind
  | c :: C, F, G => by
    show e r c * (p * F C + q * G C) - dE e r (fun l => p * F (c :: l) + q * G (c :: l)) C = p * (e r c * F C - dE e r (fun l => F (c :: l)) C) + q * (e r c * G C - dE e r (fun l => G (c :: l)) C)
    rw [dE_lin C (fun l => F (c :: l)) (fun l => G (c :: l))]
    grind
theorem dE_sc {ρ γ : Type} {e : ρ → γ → Int} {r : ρ} {p : Int} (C : List γ) (F : List γ → Int) : dE e r (fun l => p * F l) C = p * dE e r F C := by
  have h := dE_lin (e := e) (r := r) (p := p) (q := 0) C F F
  have h2 : (fun l => p * F l + 0 * F l) = fun l => p * F l := by funext l; grind
  rw [h2] at h
  rw [h]; grind
theorem dE_0 {ρ γ : Type} {e : ρ → γ → Int} {r : ρ} (C : List γ) : dE e r (fun _ => 0) C = 0 := by
  have h := dE_sc (e := e) (r := r) (p := 0) C (fun _ => 0)
  have h2 : (fun l : List γ => (0 : Int) * (fun _ => 0) l) = fun _ => 0 := by funext l; grind
  rw [h2] at h
  rw [h]; grind
/-- a row that is put together from two -/
theorem dE_row {ρ γ : Type} {e : ρ → γ → Int} {w u v : ρ} {p q : Int} : ∀ (C : List γ) (F : List γ → Int), (∀ c ∈ C, e w c = p * e u c + q * e v c) → dE e w F C = p * dE e u F C + q * dE e v F C
  | [], _, _ => by show (0 : Int) = p * 0 + q * 0; grind
  | c :: C, F, h => by
    show e w c * F C - dE e w (fun l => F (c :: l)) C = p * (e u c * F C - dE e u (fun l => F (c :: l)) C) + q * (e v c * F C - dE e v (fun l => F (c :: l)) C)
    rw [dE_row C (fun l => F (c :: l)) (fun x hx => h x (List.mem_cons_of_mem c hx)), h c List.mem_cons_self]
    grind
theorem dD_row {ρ γ : Type} {e : ρ → γ → Int} {w u v : ρ} {p q : Int} (S : List ρ) : ∀ (R : List ρ) (C : List γ), (∀ c ∈ C, e w c = p * e u c + q * e v c) → dD e (R ++ w :: S) C = p * dD e (R ++ u :: S) C + q * dD e (R ++ v :: S) C
  | [], C, h => dE_row C (dD e S) h
  | r :: R, C, h => by
    show dE e r (dD e (R ++ w :: S)) C = p * dE e r (dD e (R ++ u :: S)) C + q * dE e r (dD e (R ++ v :: S)) C
    rw [← dE_lin]
    exact dE_cong C _ _ (fun l _ hm => dD_row S R l (fun c hc => h c (hm c hc)))
/-- two rows change places -/
theorem dE_sw {ρ γ : Type} {e : ρ → γ → Int} {u v : ρ} : ∀ (C : List γ) (F : List γ → Int), dE e u (dE e v F) C = -dE e v (dE e u F) C
  | [], _ => rfl
  | c :: C, F => by
    have h1 : (fun l => dE e v F (c :: l)) = fun l => e v c * F l + (-1) * dE e v (fun l => F (c :: l)) l := by
      funext l
      show e v c * F l - dE e v (fun l => F (c :: l)) l = _
      grind
    have h2 : (fun l => dE e u F (c :: l)) = fun l => e u c * F l + (-1) * dE e u (fun l => F (c :: l)) l := by
      funext l
      show e u c * F l - dE e u (fun l => F (c :: l)) l = _
      grind
    show e u c * dE e v F C - dE e u (fun l => dE e v F (c :: l)) C = -(e v c * dE e u F C - dE e v (fun l => dE e u F (c :: l)) C)
    rw [h1, h2, dE_lin, dE_lin]
    have h3 := dE_sw (e := e) (u := u) (v := v) C (fun l => F (c :: l))
    have h4 : dE e u (fun l => dE e v (fun l => F (c :: l)) l) C = -dE e v (fun l => dE e u (fun l => F (c :: l)) l) C := h3
    rw [h4]
    grind
theorem dD_sw {ρ γ : Type} {e : ρ → γ → Int} {u v : ρ} (S : List ρ) (C : List γ) : dD e (u :: v :: S) C = -dD e (v :: u :: S) C := dE_sw C (dD e S)
/-- the rows in another order -/
theorem dD_perm {ρ γ : Type} {e : ρ → γ → Int} {R S : List ρ} (h : R.Perm S) : ∃ s : Int, (s = 1 ∨ s = -1) ∧ ∀ C : List γ, dD e R C = s * dD e S C := by
  induction h with
  | nil => exact ⟨1, Or.inl rfl, fun C => by grind⟩
  | cons r _ ih =>
    obtain ⟨s, h1, h2⟩ := ih
    refine ⟨s, h1, fun C => ?_⟩
    show dE e r (dD e _) C = s * dE e r (dD e _) C
    rw [← dE_sc]
    exact dE_cong C _ _ (fun l _ _ => h2 l)
  | swap x y l => exact ⟨-1, Or.inr rfl, fun C => by rw [dD_sw]; grind⟩
  | trans _ _ ih1 ih2 =>
    obtain ⟨s, h1, h2⟩ := ih1
    obtain ⟨t, h3, h4⟩ := ih2
    refine ⟨s * t, ?_, fun C => by rw [h2, h4]; grind⟩
    rcases h1 with rfl | rfl <;> rcases h3 with rfl | rfl <;> simp
/-- what a change of places of columns does -/
def dSw {γ : Type} (F : List γ → Int) : Prop := ∀ (X Y : List γ) (u v : γ), F (X ++ u :: v :: Y) = -F (X ++ v :: u :: Y)
theorem dE_csw {ρ γ : Type} {e : ρ → γ → Int} {r : ρ} : ∀ (X Y : List γ) (u v : γ) (F : List γ → Int), dSw F → dE e r F (X ++ u :: v :: Y) = -dE e r F (X ++ v :: u :: Y)
  | [], Y, u, v, F, h => by
    show e r u * F (v :: Y) - (e r v * F (u :: Y) - dE e r (fun l => F (u :: v :: l)) Y) = -(e r v * F (u :: Y) - (e r u * F (v :: Y) - dE e r (fun l => F (v :: u :: l)) Y))
    have h1 : (fun l => F (u :: v :: l)) = fun l => (-1) * F (v :: u :: l) := by
      funext l
      have := h [] l u v
      simp only [List.nil_append] at this
      rw [this]; grind
    rw [h1, dE_sc Y (fun l => F (v :: u :: l))]
    grind
  | x :: X, Y, u, v, F, h => by
    show e r x * F (X ++ u :: v :: Y) - dE e r (fun l => F (x :: l)) (X ++ u :: v :: Y) = -(e r x * F (X ++ v :: u :: Y) - dE e r (fun l => F (x :: l)) (X ++ v :: u :: Y))
    rw [dE_csw X Y u v (fun l => F (x :: l)) (fun X' Y' u' v' => h (x :: X') Y' u' v'), h X Y u v]
    grind
theorem dD_csw {ρ γ : Type} {e : ρ → γ → Int} : ∀ (R : List ρ), dSw (fun C : List γ => dD e R C)
  | [] => fun X Y u v => by cases X <;> rfl
  | r :: R => fun X Y u v => dE_csw X Y u v _ (dD_csw R)
theorem dF_perm {γ : Type} {C E : List γ} (h : C.Perm E) : ∃ s : Int, (s = 1 ∨ s = -1) ∧ ∀ F : List γ → Int, dSw F → F C = s * F E := by
  induction h with
  | nil => exact ⟨1, Or.inl rfl, fun F _ => by grind⟩
  | cons c _ ih =>
    obtain ⟨s, h1, h2⟩ := ih
    exact ⟨s, h1, fun F hF => h2 (fun l => F (c :: l)) (fun X Y u v => hF (c :: X) Y u v)⟩
  | swap x y l => exact ⟨-1, Or.inr rfl, fun F hF => by
      have := hF [] l y x
      simp only [List.nil_append] at this
      rw [this]; grind⟩
  | trans _ _ ih1 ih2 =>
    obtain ⟨s, h1, h2⟩ := ih1
    obtain ⟨t, h3, h4⟩ := ih2
    refine ⟨s * t, ?_, fun F hF => by rw [h2 F hF, h4 F hF]; grind⟩
    rcases h1 with rfl | rfl <;> rcases h3 with rfl | rfl <;> simp
theorem sg_ne {s x : Int} (hs : s = 1 ∨ s = -1) (h : x = 0) : s * x = 0 := by rw [h]; grind
theorem dD_rdup {ρ γ : Type} {e : ρ → γ → Int} {r : ρ} {R : List ρ} (h : r ∈ R) (C : List γ) : dD e (r :: R) C = 0 := by
  obtain ⟨X, Y, rfl⟩ := List.append_of_mem h
  obtain ⟨s, hs, hp⟩ := dD_perm (e := e) (List.Perm.cons r (List.perm_middle (a := r) (l₁ := X) (l₂ := Y)))
  rw [hp C]
  refine sg_ne hs ?_
  have := dD_sw (e := e) (u := r) (v := r) (X ++ Y) C
  omega
theorem dF_cdup {γ : Type} {F : List γ → Int} (hF : dSw F) {c : γ} {C : List γ} (h : c ∈ C) : F (c :: C) = 0 := by
  obtain ⟨X, Y, rfl⟩ := List.append_of_mem h
  obtain ⟨s, hs, hp⟩ := dF_perm (List.Perm.cons c (List.perm_middle (a := c) (l₁ := X) (l₂ := Y)))
  rw [hp F hF]
  refine sg_ne hs ?_
  have := hF [] (X ++ Y) c c
  simp only [List.nil_append] at this
  omega
theorem dE_map {ρ γ ρ' γ' : Type} {e : ρ → γ → Int} (φ : ρ' → ρ) (ψ : γ' → γ) (r : ρ') : ∀ (C : List γ') (F : List γ → Int), dE e (φ r) F (C.map ψ) = dE (fun r c => e (φ r) (ψ c)) r (fun l => F (l.map ψ)) C
  | [], _ => rfl
  | c :: C, F => by
    show e (φ r) (ψ c) * F (C.map ψ) - dE e (φ r) (fun l => F (ψ c :: l)) (C.map ψ) = e (φ r) (ψ c) * F (C.map ψ) - dE (fun r c => e (φ r) (ψ c)) r (fun l => F ((c :: l).map ψ)) C
    rw [dE_map φ ψ r C (fun l => F (ψ c :: l))]
    rfl
theorem dD_map {ρ γ ρ' γ' : Type} {e : ρ → γ → Int} (φ : ρ' → ρ) (ψ : γ' → γ) : ∀ (R : List ρ') (C : List γ'), dD e (R.map φ) (C.map ψ) = dD (fun r c => e (φ r) (ψ c)) R C
  | [], [] => rfl
  | [], _ :: _ => rfl
  | r :: R, C => by
    show dE e (φ r) (dD e (R.map φ)) (C.map ψ) = dE (fun r c => e (φ r) (ψ c)) r (dD (fun r c => e (φ r) (ψ c)) R) C
    rw [dE_map]
    exact dE_cong C _ _ (fun l _ _ => dD_map φ ψ R l)
/-- a column that is put together from two -/
theorem dE_col {ρ γ : Type} {e : ρ → γ → Int} {r : ρ} {w u v : γ} {p q : Int} (Y : List γ) (hr : e r w = p * e r u + q * e r v) : ∀ (X : List γ) (F : List γ → Int), (∀ X' Y' : List γ, F (X' ++ w :: Y') = p * F (X' ++ u :: Y') + q * F (X' ++ v :: Y')) → dE e r F (X ++ w :: Y) = p * dE e r F (X ++ u :: Y) + q * dE e r F (X ++ v :: Y)
  | [], F, h => by
    show e r w * F Y - dE e r (fun l => F (w :: l)) Y = p * (e r u * F Y - dE e r (fun l => F (u :: l)) Y) + q * (e r v * F Y - dE e r (fun l => F (v :: l)) Y)
    have h1 : (fun l => F (w :: l)) = fun l => p * F (u :: l) + q * F (v :: l) := by
      funext l
      exact h [] l
    rw [h1, dE_lin Y (fun l => F (u :: l)) (fun l => F (v :: l)), hr]
    grind
  | x :: X, F, h => by
    show e r x * F (X ++ w :: Y) - dE e r (fun l => F (x :: l)) (X ++ w :: Y) = p * (e r x * F (X ++ u :: Y) - dE e r (fun l => F (x :: l)) (X ++ u :: Y)) + q * (e r x * F (X ++ v :: Y) - dE e r (fun l => F (x :: l)) (X ++ v :: Y))
    rw [dE_col Y hr X (fun l => F (x :: l)) (fun X' Y' => h (x :: X') Y'), h X Y]
    grind
