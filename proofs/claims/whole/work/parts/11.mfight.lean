/-! ===== the reference's fight ===== -/
/-- the data are of a field -/
def DR (D : FD) : Prop := dn D ≤ 9 ∧ ∀ m, m < dn D → (0 ≤ dk D m ∧ dk D m ≤ 2) ∧ (1 ≤ ds D m ∧ ds D m ≤ 9) ∧ (1 ≤ da D m ∧ da D m ≤ 9)
def fr (w c d : Int) : Int := (if c / w < d / w then d / w - c / w else c / w - d / w) + (if c % w < d % w then d % w - c % w else c % w - d % w)
/-- the data that the reference's rows hold -/
def HM (D : FD) (X : XS) : Prop := X.1 43 7 = (dn D : Int) ∧ DR D ∧ (∀ m, m < dn D → X.1 47 m = dk D m ∧ X.1 48 m = dd D m ∧ X.1 49 m = ds D m ∧ X.1 50 m = da D m) ∧
  (∀ m, m < dn D → (0 < X.1 43 6 ∧ X.1 43 6 ≤ 5) ∧ 0 ≤ X.1 51 m ∧ X.1 51 m < 20) ∧ ∀ m o, m < dn D → o < dn D → fr (X.1 43 6) (X.1 51 m) (X.1 51 o) = df D m o
/-- the fight that the reference's rows hold -/
def FM (D : FD) (F : FS) (X : XS) : Prop := ∀ m, m < dn D → X.1 55 m = F.1 m ∧ X.1 56 m = F.2.1 m ∧ X.1 57 m = F.2.2.1 m ∧ X.1 58 m = F.2.2.2 m
/-- only the fight's rows have changed -/
def MF (X Y : XS) : Prop := Y.2 = X.2 ∧ ∀ i, i < 55 ∨ 59 < i → Y.1 i = X.1 i
theorem MF.rf (X : XS) : MF X X := ⟨rfl, fun _ _ => rfl⟩
theorem MF.tr {X Y Z : XS} (h : MF X Y) (g : MF Y Z) : MF X Z := ⟨g.1.trans h.1, fun i hi => (g.2 i hi).trans (h.2 i hi)⟩
theorem MF.up {X Y : XS} {i k : Nat} {z : Int} (h : MF X Y) (hi : 55 ≤ i ∧ i ≤ 59) : MF X (up Y.1 i k z, Y.2) := ⟨h.1, fun j hj => (up_ne (by omega)).trans (h.2 j hj)⟩
theorem HM.mf {D : FD} {X Y : XS} (h : HM D X) (g : MF X Y) : HM D Y := by
  obtain ⟨h1, h2, h3, h4, h5⟩ := h
  unfold HM
  rw [g.2 43 (by omega), g.2 47 (by omega), g.2 48 (by omega), g.2 49 (by omega), g.2 50 (by omega), g.2 51 (by omega)]
  exact ⟨h1, h2, h3, h4, h5⟩
theorem HM.n9 {D : FD} {X : XS} (h : HM D X) : dn D ≤ 9 := h.2.1.1
theorem up_g (h : Nat → Nat → Int) (i k : Nat) (z : Int) (j q : Nat) : up h i k z j q = if j = i ∧ q = k then z else h j q := by
  unfold up
  by_cases e : j = i
  · subst e
    simp
  · simp [e]
theorem mo_begin (w : WD) (D : FD) (X : XS) (ab : Int) (hD : HM D X) (ha : X.1 43 23 = ab) : MS w M_Mo_begin [.inr (.inr (7, 43))] X (fun _ Y => MF X Y ∧ FM D (bgn D ab) Y) := by
  refine mk_Mo_begin rfl ?_
  refine tx_Mo_begin 2 ?_
  have L : ∀ j, j ≤ dn D → ∀ (c : Int) (Y : XS), c = (j : Int) → MF X Y → (∀ m, m < j → Y.1 55 m = (bgn D ab).1 m ∧ Y.1 56 m = (bgn D ab).2.1 m ∧ Y.1 57 m = (bgn D ab).2.2.1 m ∧ Y.1 58 m = (bgn D ab).2.2.2 m) → Go w K_Mo_begin 2 [some (.inr (.inr (7, 43))), some (.inl c)] [] Y (fun _ Y => MF X Y ∧ FM D (bgn D ab) Y) := by
    refine lp ?_
    intro j hj ih c Y hc hF hI
    subst hc
    obtain ⟨h1, ⟨h2, -⟩, h3, -⟩ := hD.mf hF
    have ha' : Y.1 43 23 = ab := by rw [hF.2 43 (by omega)]; exact ha
    refine sx_Mo_begin ?_
    refine ⟨fun h => ?_, fun h => ?_⟩
    · have : j = dn D := by omega
      subst this
      refine sx_Mo_begin ?_
      exact ⟨hF, hI⟩
    · have hjn : j < dn D := by omega
      refine ⟨fun e => ?_, fun e => ?_⟩
      · refine sx_Mo_begin ?_
        refine ⟨by omega, by show (j : Int) < 9; omega, Or.inl rfl, by omega, by show (j : Int) < 9; omega, by omega, by show (j : Int) < 9; omega, by omega, by show (j : Int) < 9; omega, by omega, by show (j : Int) < 9; omega, ?_⟩
        refine ih hjn _ _ (w1 rfl (by omega)) (MF.up (MF.up (MF.up (MF.up hF (by omega)) (by omega)) (by omega)) (by omega)) (fun m hm => ?_)
        by_cases em : m = j
        · subst em
          have := (h3 m hjn).2.2.2
          simp [up_g, bgn, this]
          omega
        · have := hI m (by omega)
          simp [up_g, em, this]
      · refine sx_Mo_begin ?_
        refine ⟨by omega, by show (j : Int) < 9; omega, Or.inr rfl, by omega, by show (j : Int) < 9; omega, by omega, by show (j : Int) < 9; omega, by omega, by show (j : Int) < 9; omega, by omega, by show (j : Int) < 9; omega, ?_⟩
        refine ih hjn _ _ (w1 rfl (by omega)) (MF.up (MF.up (MF.up (MF.up hF (by omega)) (by omega)) (by omega)) (by omega)) (fun m hm => ?_)
        by_cases em : m = j
        · subst em
          have := (h3 m hjn).2.2.2
          simp [up_g, bgn, this]
          omega
        · have := hI m (by omega)
          simp [up_g, em, this]
  exact L 0 (Nat.zero_le _) 0 X rfl (MF.rf X) (fun m hm => absurd hm (Nat.not_lt_zero m))
theorem dv {c w : Int} (h0 : 0 ≤ c) (h1 : c < 20) (h2 : 0 < w) : (0 ≤ c / w ∧ c / w < 20) ∧ (0 ≤ c % w ∧ c % w < 20) := by
  have a1 := Int.ediv_nonneg h0 (Int.le_of_lt h2)
  have a2 := Int.ediv_le_self w h0
  have a3 := Int.emod_nonneg c (Int.ne_of_gt h2)
  have a4 := Int.emod_le h0 (Int.le_of_lt h2)
  omega
theorem mo_apart (w : WD) (X : XS) {a b : Int} (ha : 0 ≤ a ∧ a < 20) (hb : 0 ≤ b ∧ b < 20) : MS w M_Mo_apart [.inl a, .inl b] X (fun z Y => Y = X ∧ z = if a < b then b - a else a - b) := by
  refine mk_Mo_apart rfl ?_
  refine sx_Mo_apart ?_
  refine ⟨fun h => ?_, fun h => ?_⟩
  · refine sx_Mo_apart ?_
    exact ⟨trivial, rfl, by rw [wr_id (by omega) (by omega), if_neg (by omega)]⟩
  · refine sx_Mo_apart ?_
    exact ⟨trivial, rfl, by rw [wr_id (by omega) (by omega), if_pos (by omega)]⟩
theorem mo_farOf (w : WD) {D : FD} {X : XS} (hD : HM D X) {m o : Nat} (hm : m < dn D) (ho : o < dn D) : MS w M_Mo_farOf [.inr (.inr (7, 43)), .inl (m : Int), .inl (o : Int)] X (fun z Y => Y = X ∧ z = df D m o) := by
  have h9 := hD.n9
  obtain ⟨-, -, -, h4, h5⟩ := hD
  obtain ⟨⟨w1, w2⟩, m1, m2⟩ := h4 m hm
  obtain ⟨-, o1, o2⟩ := h4 o ho
  have dm := dv m1 m2 w1
  have d0 := dv o1 o2 w1
  have A1 := mo_apart w X dm.1 d0.1
  have A2 := mo_apart w X dm.2 d0.2
  refine mk_Mo_farOf rfl ?_
  refine sx_Mo_farOf ?_
  refine ⟨(by omega), (by show _ < ((9 : Nat) : Int); omega), m1, w1, (by omega), (by show _ < ((9 : Nat) : Int); omega), o1, w1, trivial, _, A1, fun z Y hq => ?_⟩
  obtain ⟨rfl, rfl⟩ := hq
  refine sx_Mo_farOf ?_
  refine ⟨(by omega), (by show _ < ((9 : Nat) : Int); omega), m1, w1, (by omega), (by show _ < ((9 : Nat) : Int); omega), o1, w1, trivial, _, A2, fun z Y' hq => ?_⟩
  obtain ⟨rfl, rfl⟩ := hq
  refine sx_Mo_farOf ?_
  refine ⟨trivial, rfl, ?_⟩
  rw [← h5 m o hm ho]
  unfold fr
  rw [wr_id]
  · split <;> split <;> omega
  · split <;> split <;> omega
theorem mo_reach (w : WD) {D : FD} {X : XS} (hD : HM D X) {m : Nat} (hm : m < dn D) : MS w M_Mo_reach [.inr (.inr (7, 43)), .inl (m : Int)] X (fun z Y => Y = X ∧ z = rch (dk D m)) := by
  have h9 := hD.n9
  have hk : X.1 47 m = dk D m := (hD.2.2.1 m hm).1
  refine mk_Mo_reach rfl ?_
  refine sx_Mo_reach ?_
  refine ⟨(by omega), (by show _ < ((9 : Nat) : Int); omega), fun h => ?_, fun h => ?_⟩
  · refine sx_Mo_reach ?_
    exact ⟨trivial, rfl, by unfold rch; rw [if_neg (fun q => h (hk.trans q))]⟩
  · refine sx_Mo_reach ?_
    exact ⟨trivial, rfl, by unfold rch; rw [if_pos (hk.symm.trans h)]⟩
theorem mo_blow (w : WD) {D : FD} {X : XS} (hD : HM D X) {m : Nat} (hm : m < dn D) : MS w M_Mo_blow [.inr (.inr (7, 43)), .inl (m : Int)] X (fun z Y => Y = X ∧ z = blw (dk D m) (ds D m)) := by
  have h9 := hD.n9
  have hk : X.1 47 m = dk D m := (hD.2.2.1 m hm).1
  have hs : X.1 49 m = ds D m := (hD.2.2.1 m hm).2.2.1
  have hr := (hD.2.1.2 m hm).2.1
  refine mk_Mo_blow rfl ?_
  refine sx_Mo_blow ?_
  refine ⟨(by omega), (by show _ < ((9 : Nat) : Int); omega), fun h => ?_, fun h => ?_⟩
  · have hk0 : dk D m ≠ 0 := fun q => h (hk.trans q)
    refine tx_Mo_blow 7 ?_
    refine ⟨(by omega), (by show _ < ((9 : Nat) : Int); omega), by show 0 ≤ X.1 49 m; omega, by decide, ?_⟩
    have E2 : ∀ (z y : Int), z = max 1 (ds D m / 2) → Go w K_Mo_blow 36 [some (.inr (.inr (7, 43))), some (.inl (m : Int)), some (.inl y), some (.inl z)] [] X (fun z Y => Y = X ∧ z = blw (dk D m) (ds D m)) := by
      intro z y hz
      refine sx_Mo_blow ?_
      refine ⟨(by omega), (by show _ < ((9 : Nat) : Int); omega), fun h => ?_, fun h => ?_⟩
      · refine sx_Mo_blow ?_
        exact ⟨trivial, rfl, by unfold blw; rw [if_neg hk0, if_neg (fun q => h (hk.trans q)), hz]⟩
      · refine sx_Mo_blow ?_
        exact ⟨trivial, rfl, by unfold blw; rw [if_neg hk0, if_pos (hk.symm.trans h), hz, wr_id (by omega) (by omega)]⟩
    refine sx_Mo_blow ?_
    refine ⟨fun h => ?_, fun h => ?_⟩
    · refine tx_Mo_blow 2 ?_
      have h : 1 ≤ X.1 49 m / 2 := h
      exact E2 _ _ (by show X.1 49 m / 2 = _; rw [hs] at h ⊢; omega)
    · refine tx_Mo_blow 1 ?_
      have h : X.1 49 m / 2 < 1 := h
      exact E2 _ _ (by rw [hs] at h; omega)
  · refine sx_Mo_blow ?_
    exact ⟨(by omega), (by show _ < ((9 : Nat) : Int); omega), trivial, rfl, by unfold blw; rw [if_pos (hk.symm.trans h)]; exact hs⟩
