/-! ===== the reference's fight ===== -/
/-- the data that the reference's rows hold -/
def HM (D : FD) (X : XS) : Prop := X.1 43 7 = (dn D : Int) ∧ dn D ≤ 9 ∧ (∀ m, m < dn D → X.1 47 m = dk D m ∧ X.1 48 m = dd D m ∧ X.1 49 m = ds D m ∧ X.1 50 m = da D m)
/-- the fight that the reference's rows hold -/
def FM (D : FD) (F : FS) (X : XS) : Prop := ∀ m, m < dn D → X.1 55 m = F.1 m ∧ X.1 56 m = F.2.1 m ∧ X.1 57 m = F.2.2.1 m ∧ X.1 58 m = F.2.2.2 m
/-- only the fight's rows have changed -/
def MF (X Y : XS) : Prop := Y.2 = X.2 ∧ ∀ i, i < 55 ∨ 59 < i → Y.1 i = X.1 i
theorem MF.rf (X : XS) : MF X X := ⟨rfl, fun _ _ => rfl⟩
theorem MF.tr {X Y Z : XS} (h : MF X Y) (g : MF Y Z) : MF X Z := ⟨g.1.trans h.1, fun i hi => (g.2 i hi).trans (h.2 i hi)⟩
theorem MF.up {X Y : XS} {i k : Nat} {z : Int} (h : MF X Y) (hi : 55 ≤ i ∧ i ≤ 59) : MF X (up Y.1 i k z, Y.2) := ⟨h.1, fun j hj => (up_ne (by omega)).trans (h.2 j hj)⟩
theorem HM.mf {D : FD} {X Y : XS} (h : HM D X) (g : MF X Y) : HM D Y := by
  obtain ⟨h1, h2, h3⟩ := h
  refine ⟨by rw [g.2 43 (by omega)]; exact h1, h2, fun m hm => ?_⟩
  rw [g.2 47 (by omega), g.2 48 (by omega), g.2 49 (by omega), g.2 50 (by omega)]
  exact h3 m hm
theorem up_g (h : Nat → Nat → Int) (i k : Nat) (z : Int) (j q : Nat) : up h i k z j q = if j = i ∧ q = k then z else h j q := by
  unfold up
  by_cases e : j = i
  · subst e
    simp
  · simp [e]
theorem mo_begin (w : WD) (D : FD) (X : XS) (ab : Int) (hD : HM D X) (ha : X.1 43 23 = ab) : MS w M_Mo_begin [.inr (.inr (7, 43))] X (fun _ Y => MF X Y ∧ FM D (bgn D ab) Y) := by
  refine mk_Mo_begin rfl ?_
  refine tx_Mo_begin 2 ?_
  have L : ∀ j, j ≤ dn D → ∀ (c : Int) (Y : XS), c = (j : Int) → MF X Y → (∀ m, m < j → Y.1 55 m = (bgn D ab).1 m ∧ Y.1 56 m = (bgn D ab).2.1 m ∧ Y.1 57 m = (bgn D ab).2.2.1 m ∧ Y.1 58 m = (bgn D ab).2.2.2 m) → Go w K_Mo_begin 2 [some (.inr (.inr (7, 43))), some (.inl c)] [] Y (fun _ Y => MF X Y ∧ FM D (bgn D ab) Y) := by
    refine lp ?_
    intro j hj ih c Y hc hF hI
    subst hc
    obtain ⟨h1, h2, h3⟩ := hD.mf hF
    have ha' : Y.1 43 23 = ab := by rw [hF.2 43 (by omega)]; exact ha
    refine sx_Mo_begin ?_
    refine ⟨fun h => ?_, fun h => ?_⟩
    · have : j = dn D := by omega
      subst this
      refine sx_Mo_begin ?_
      exact ⟨hF, hI⟩
    · have hjn : j < dn D := by omega
      refine ⟨fun e => ?_, fun e => ?_⟩
      · refine sx_Mo_begin ?_
        refine ⟨by omega, by show (j : Int) < 9; omega, Or.inl rfl, by omega, by show (j : Int) < 9; omega, by omega, by show (j : Int) < 9; omega, by omega, by show (j : Int) < 9; omega, by omega, by show (j : Int) < 9; omega, ?_⟩
        refine ih hjn _ _ (w1 rfl (by omega)) (MF.up (MF.up (MF.up (MF.up hF (by omega)) (by omega)) (by omega)) (by omega)) (fun m hm => ?_)
        by_cases em : m = j
        · subst em
          have := (h3 m hjn).2.2.2
          simp [up_g, bgn, this]
          omega
        · have := hI m (by omega)
          simp [up_g, em, this]
      · refine sx_Mo_begin ?_
        refine ⟨by omega, by show (j : Int) < 9; omega, Or.inr rfl, by omega, by show (j : Int) < 9; omega, by omega, by show (j : Int) < 9; omega, by omega, by show (j : Int) < 9; omega, by omega, by show (j : Int) < 9; omega, ?_⟩
        refine ih hjn _ _ (w1 rfl (by omega)) (MF.up (MF.up (MF.up (MF.up hF (by omega)) (by omega)) (by omega)) (by omega)) (fun m hm => ?_)
        by_cases em : m = j
        · subst em
          have := (h3 m hjn).2.2.2
          simp [up_g, bgn, this]
          omega
        · have := hI m (by omega)
          simp [up_g, em, this]
  exact L 0 (Nat.zero_le _) 0 X rfl (MF.rf X) (fun m hm => absurd hm (Nat.not_lt_zero m))
