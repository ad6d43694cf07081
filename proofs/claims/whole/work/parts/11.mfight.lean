/-! ===== the reference's fight ===== -/
/-- the data are of a field -/
def DR (D : FD) : Prop := dn D ≤ 9 ∧ ∀ m, m < dn D → (0 ≤ dk D m ∧ dk D m ≤ 2) ∧ (1 ≤ ds D m ∧ ds D m ≤ 9) ∧ (1 ≤ da D m ∧ da D m ≤ 9)
def fr (w c d : Int) : Int := (if c / w < d / w then d / w - c / w else c / w - d / w) + (if c % w < d % w then d % w - c % w else c % w - d % w)
/-- the data that the reference's rows hold -/
def HM (D : FD) (X : XS) : Prop := X.1 43 7 = (dn D : Int) ∧ DR D ∧ (∀ m, m < dn D → X.1 47 m = dk D m ∧ X.1 48 m = dd D m ∧ X.1 49 m = ds D m ∧ X.1 50 m = da D m) ∧
  (∀ m, m < dn D → (0 < X.1 43 6 ∧ X.1 43 6 ≤ 5) ∧ 0 ≤ X.1 51 m ∧ X.1 51 m < 20) ∧ ∀ m o, m < dn D → o < dn D → fr (X.1 43 6) (X.1 51 m) (X.1 51 o) = df D m o
/-- the fight that the reference's rows hold -/
def FM (D : FD) (F : FS) (X : XS) : Prop := ∀ m, m < dn D → X.1 55 m = F.1 m ∧ X.1 56 m = F.2.1 m ∧ X.1 57 m = F.2.2.1 m ∧ X.1 58 m = F.2.2.2 m
/-- only the fight's rows have changed -/
def MF (X Y : XS) : Prop := Y.2 = X.2 ∧ ∀ i, i < 55 ∨ 59 < i → Y.1 i = X.1 i
theorem MF.rf (X : XS) : MF X X := ⟨rfl, fun _ _ => rfl⟩
theorem MF.tr {X Y Z : XS} (h : MF X Y) (g : MF Y Z) : MF X Z := ⟨g.1.trans h.1, fun i hi => (g.2 i hi).trans (h.2 i hi)⟩
theorem MF.up {X Y : XS} {i k : Nat} {z : Int} (h : MF X Y) (hi : 55 ≤ i ∧ i ≤ 59) : MF X (up Y.1 i k z, Y.2) := ⟨h.1, fun j hj => (up_ne (by omega)).trans (h.2 j hj)⟩
theorem HM.mf {D : FD} {X Y : XS} (h : HM D X) (g : MF X Y) : HM D Y := by
  obtain ⟨h1, h2, h3, h4, h5⟩ := h
  unfold HM
  rw [g.2 43 (by omega), g.2 47 (by omega), g.2 48 (by omega), g.2 49 (by omega), g.2 50 (by omega), g.2 51 (by omega)]
  exact ⟨h1, h2, h3, h4, h5⟩
theorem HM.n9 {D : FD} {X : XS} (h : HM D X) : dn D ≤ 9 := h.2.1.1
theorem up_g (h : Nat → Nat → Int) (i k : Nat) (z : Int) (j q : Nat) : up h i k z j q = if j = i ∧ q = k then z else h j q := by
  unfold up
  by_cases e : j = i
  · subst e
    simp
  · simp [e]
theorem mo_begin (w : WD) (D : FD) (X : XS) (ab : Int) (hD : HM D X) (ha : X.1 43 23 = ab) : MS w M_Mo_begin [.inr (.inr (7, 43))] X (fun _ Y => MF X Y ∧ FM D (bgn D ab) Y) := by
  refine mk_Mo_begin rfl ?_
  refine tx_Mo_begin 2 ?_
  have L : ∀ j, j ≤ dn D → ∀ (c : Int) (Y : XS), c = (j : Int) → MF X Y → (∀ m, m < j → Y.1 55 m = (bgn D ab).1 m ∧ Y.1 56 m = (bgn D ab).2.1 m ∧ Y.1 57 m = (bgn D ab).2.2.1 m ∧ Y.1 58 m = (bgn D ab).2.2.2 m) → Go w K_Mo_begin 2 [some (.inr (.inr (7, 43))), some (.inl c)] [] Y (fun _ Y => MF X Y ∧ FM D (bgn D ab) Y) := by
    refine lp ?_
    intro j hj ih c Y hc hF hI
    subst hc
    obtain ⟨h1, ⟨h2, -⟩, h3, -⟩ := hD.mf hF
    have ha' : Y.1 43 23 = ab := by rw [hF.2 43 (by omega)]; exact ha
    refine sx_Mo_begin ?_
    refine ⟨fun h => ?_, fun h => ?_⟩
    · have : j = dn D := by omega
      subst this
      refine sx_Mo_begin ?_
      exact ⟨hF, hI⟩
    · have hjn : j < dn D := by omega
      refine ⟨fun e => ?_, fun e => ?_⟩
      · refine sx_Mo_begin ?_
        refine ⟨by omega, by show (j : Int) < 9; omega, Or.inl rfl, by omega, by show (j : Int) < 9; omega, by omega, by show (j : Int) < 9; omega, by omega, by show (j : Int) < 9; omega, by omega, by show (j : Int) < 9; omega, ?_⟩
        refine ih hjn _ _ (w1 rfl (by omega)) (MF.up (MF.up (MF.up (MF.up hF (by omega)) (by omega)) (by omega)) (by omega)) (fun m hm => ?_)
        by_cases em : m = j
        · subst em
          have := (h3 m hjn).2.2.2
          simp [up_g, bgn, this]
          omega
        · have := hI m (by omega)
          simp [up_g, em, this]
      · refine sx_Mo_begin ?_
        refine ⟨by omega, by show (j : Int) < 9; omega, Or.inr rfl, by omega, by show (j : Int) < 9; omega, by omega, by show (j : Int) < 9; omega, by omega, by show (j : Int) < 9; omega, by omega, by show (j : Int) < 9; omega, ?_⟩
        refine ih hjn _ _ (w1 rfl (by omega)) (MF.up (MF.up (MF.up (MF.up hF (by omega)) (by omega)) (by omega)) (by omega)) (fun m hm => ?_)
        by_cases em : m = j
        · subst em
          have := (h3 m hjn).2.2.2
          simp [up_g, bgn, this]
          omega
        · have := hI m (by omega)
          simp [up_g, em, this]
  exact L 0 (Nat.zero_le _) 0 X rfl (MF.rf X) (fun m hm => absurd hm (Nat.not_lt_zero m))
theorem dv {c w : Int} (h0 : 0 ≤ c) (h1 : c < 20) (h2 : 0 < w) : (0 ≤ c / w ∧ c / w < 20) ∧ (0 ≤ c % w ∧ c % w < 20) := by
  have a1 := Int.ediv_nonneg h0 (Int.le_of_lt h2)
  have a2 := Int.ediv_le_self w h0
  have a3 := Int.emod_nonneg c (Int.ne_of_gt h2)
  have a4 := Int.mul_ediv_add_emod c w
  have a5 := Int.mul_nonneg (Int.le_of_lt h2) a1
  omega
theorem mo_apart (w : WD) (X : XS) {a b : Int} (ha : 0 ≤ a ∧ a < 20) (hb : 0 ≤ b ∧ b < 20) : MS w M_Mo_apart [.inl a, .inl b] X (fun z Y => Y = X ∧ z = if a < b then b - a else a - b) := by
  refine mk_Mo_apart rfl ?_
  refine sx_Mo_apart ?_
  refine ⟨fun h => ?_, fun h => ?_⟩
  · refine sx_Mo_apart ?_
    exact ⟨trivial, rfl, by rw [wr_id (by omega) (by omega), if_neg (by omega)]⟩
  · refine sx_Mo_apart ?_
    exact ⟨trivial, rfl, by rw [wr_id (by omega) (by omega), if_pos (by omega)]⟩
theorem mo_farOf (w : WD) {D : FD} {X : XS} (hD : HM D X) {m o : Nat} (hm : m < dn D) (ho : o < dn D) : MS w M_Mo_farOf [.inr (.inr (7, 43)), .inl (m : Int), .inl (o : Int)] X (fun z Y => Y = X ∧ z = df D m o) := by
  have h9 := hD.n9
  obtain ⟨-, -, -, h4, h5⟩ := hD
  obtain ⟨⟨w1, w2⟩, m1, m2⟩ := h4 m hm
  obtain ⟨-, o1, o2⟩ := h4 o ho
  have dm := dv m1 m2 w1
  have d0 := dv o1 o2 w1
  have A1 := mo_apart w X dm.1 d0.1
  have A2 := mo_apart w X dm.2 d0.2
  refine mk_Mo_farOf rfl ?_
  refine sx_Mo_farOf ?_
  refine ⟨(by omega), (by show _ < ((9 : Nat) : Int); omega), m1, w1, (by omega), (by show _ < ((9 : Nat) : Int); omega), o1, w1, trivial, _, A1, fun z Y hq => ?_⟩
  obtain ⟨rfl, rfl⟩ := hq
  refine sx_Mo_farOf ?_
  refine ⟨(by omega), (by show _ < ((9 : Nat) : Int); omega), m1, w1, (by omega), (by show _ < ((9 : Nat) : Int); omega), o1, w1, trivial, _, A2, fun z Y' hq => ?_⟩
  obtain ⟨rfl, rfl⟩ := hq
  refine sx_Mo_farOf ?_
  refine ⟨trivial, rfl, ?_⟩
  rw [← h5 m o hm ho]
  unfold fr
  rw [wr_id]
  · split <;> split <;> omega
  · split <;> split <;> omega
theorem mo_reach (w : WD) {D : FD} {X : XS} (hD : HM D X) {m : Nat} (hm : m < dn D) : MS w M_Mo_reach [.inr (.inr (7, 43)), .inl (m : Int)] X (fun z Y => Y = X ∧ z = rch (dk D m)) := by
  have h9 := hD.n9
  have hk : X.1 47 m = dk D m := (hD.2.2.1 m hm).1
  refine mk_Mo_reach rfl ?_
  refine sx_Mo_reach ?_
  refine ⟨(by omega), (by show _ < ((9 : Nat) : Int); omega), fun h => ?_, fun h => ?_⟩
  · refine sx_Mo_reach ?_
    exact ⟨trivial, rfl, by unfold rch; rw [if_neg (fun q => h (hk.trans q))]⟩
  · refine sx_Mo_reach ?_
    exact ⟨trivial, rfl, by unfold rch; rw [if_pos (hk.symm.trans h)]⟩
theorem mo_blow (w : WD) {D : FD} {X : XS} (hD : HM D X) {m : Nat} (hm : m < dn D) : MS w M_Mo_blow [.inr (.inr (7, 43)), .inl (m : Int)] X (fun z Y => Y = X ∧ z = blw (dk D m) (ds D m)) := by
  have h9 := hD.n9
  have hk : X.1 47 m = dk D m := (hD.2.2.1 m hm).1
  have hs : X.1 49 m = ds D m := (hD.2.2.1 m hm).2.2.1
  have hr := (hD.2.1.2 m hm).2.1
  refine mk_Mo_blow rfl ?_
  refine sx_Mo_blow ?_
  refine ⟨(by omega), (by show _ < ((9 : Nat) : Int); omega), fun h => ?_, fun h => ?_⟩
  · have hk0 : dk D m ≠ 0 := fun q => h (hk.trans q)
    refine tx_Mo_blow 7 ?_
    refine ⟨(by omega), (by show _ < ((9 : Nat) : Int); omega), by show 0 ≤ X.1 49 m; omega, by decide, ?_⟩
    have E2 : ∀ (z y : Int), z = max 1 (ds D m / 2) → Go w K_Mo_blow 36 [some (.inr (.inr (7, 43))), some (.inl (m : Int)), some (.inl y), some (.inl z)] [] X (fun z Y => Y = X ∧ z = blw (dk D m) (ds D m)) := by
      intro z y hz
      refine sx_Mo_blow ?_
      refine ⟨(by omega), (by show _ < ((9 : Nat) : Int); omega), fun h => ?_, fun h => ?_⟩
      · refine sx_Mo_blow ?_
        exact ⟨trivial, rfl, by unfold blw; rw [if_neg hk0, if_neg (fun q => h (hk.trans q)), hz]⟩
      · refine sx_Mo_blow ?_
        exact ⟨trivial, rfl, by unfold blw; rw [if_neg hk0, if_pos (hk.symm.trans h), hz, wr_id (by omega) (by omega)]⟩
    refine sx_Mo_blow ?_
    refine ⟨fun h => ?_, fun h => ?_⟩
    · refine tx_Mo_blow 2 ?_
      have h : 1 ≤ X.1 49 m / 2 := h
      exact E2 _ _ (by show X.1 49 m / 2 = _; rw [hs] at h ⊢; omega)
    · refine tx_Mo_blow 1 ?_
      have h : X.1 49 m / 2 < 1 := h
      exact E2 _ _ (by rw [hs] at h; omega)
  · exact ⟨(by omega), (by show _ < ((9 : Nat) : Int); omega), trivial, rfl, by unfold blw; rw [if_pos (hk.symm.trans h)]; exact hs⟩
theorem mo_may (w : WD) {D : FD} {X : XS} {u : Nat → Int} (hD : HM D X) (hu : ∀ m, m < dn D → X.1 55 m = u m) (hU : U01 D u) {m x : Nat} (hm : m < dn D) (hx : x < dn D) (b : Bool) : MS w M_Mo_mayTurnOn [.inr (.inr (7, 43)), .inl (m : Int), .inl (x : Int), .inl (bi b)] X (fun z Y => Y = X ∧ z = if may D u m x b then 1 else 0) := by
  have h9 := hD.n9
  have hdm : X.1 48 m = dd D m := (hD.2.2.1 m hm).2.1
  have hdx : X.1 48 x = dd D x := (hD.2.2.1 x hx).2.1
  have hux := hu x hx
  have hU := hU x hx
  have A1 := mo_farOf w hD hm hx
  have A2 := mo_reach w hD hm
  have NO : ¬ may D u m x b → Go w K_Mo_mayTurnOn 51 [some (.inr (.inr (7, 43))), some (.inl (m : Int)), some (.inl (x : Int)), some (.inl (bi b))] [] X (fun z Y => Y = X ∧ z = if may D u m x b then 1 else 0) := by
    intro h
    refine sx_Mo_mayTurnOn ?_
    exact ⟨Or.inl rfl, rfl, by rw [if_neg h]⟩
  have YES : may D u m x b → Go w K_Mo_mayTurnOn 47 [some (.inr (.inr (7, 43))), some (.inl (m : Int)), some (.inl (x : Int)), some (.inl (bi b))] [] X (fun z Y => Y = X ∧ z = if may D u m x b then 1 else 0) := by
    intro h
    refine sx_Mo_mayTurnOn ?_
    refine sx_Mo_mayTurnOn ?_
    exact ⟨Or.inr rfl, rfl, by rw [if_pos h]⟩
  refine mk_Mo_mayTurnOn rfl ?_
  refine sx_Mo_mayTurnOn ?_
  refine ⟨fun h => ?_, fun h => ⟨(by omega), (by show _ < ((9 : Nat) : Int); omega), fun h2 => ?_, fun h2 => ?_⟩⟩
  · exact NO (fun q => q.1 (by omega))
  · have h2 : X.1 55 x = 0 := h2
    exact NO (fun q => by have := q.2.1; omega)
  · have h2 : X.1 55 x ≠ 0 := h2
    refine ⟨trivial, _, A1, fun z Y hq => ?_⟩
    obtain ⟨rfl, rfl⟩ := hq
    refine sx_Mo_mayTurnOn ?_
    refine ⟨trivial, _, A2, fun z Y' hq => ?_⟩
    obtain ⟨rfl, rfl⟩ := hq
    refine tx_Mo_mayTurnOn 12 ?_
    refine ⟨fun h3 => ?_, fun h3 => ⟨fun h4 => ?_, fun h4 => ⟨(by omega), (by show _ < ((9 : Nat) : Int); omega), (by omega), (by show _ < ((9 : Nat) : Int); omega), fun h5 => ?_, fun h5 => ?_⟩⟩⟩
    · exact NO (fun q => by have := q.2.2.1; omega)
    · have hb : b = false := by cases b; · rfl
                                exact absurd h4 (by decide)
      exact YES ⟨by omega, by omega, h3, Or.inl hb⟩
    · have h5 : Y'.1 48 x = Y'.1 48 m := h5
      have hb : b = true := by cases b; · exact absurd rfl h4
                               rfl
      exact NO (fun q => by
        rcases q.2.2.2 with q | q
        · rw [hb] at q; cases q
        · omega)
    · have h5 : Y'.1 48 x ≠ Y'.1 48 m := h5
      exact YES ⟨by omega, by omega, h3, Or.inr (by omega)⟩
theorem mo_nearest (w : WD) {D : FD} {X : XS} {u : Nat → Int} (hD : HM D X) (hu : ∀ m, m < dn D → X.1 55 m = u m) (hU : U01 D u) {m : Nat} (hm : m < dn D) (b : Bool) : MS w M_Mo_nearest [.inr (.inr (7, 43)), .inl (m : Int), .inl (bi b)] X (fun z Y => Y = X ∧ z = nrs D u m b (dn D)) := by
  have h9 := hD.n9
  have hn : X.1 43 7 = (dn D : Int) := hD.1
  refine mk_Mo_nearest rfl ?_
  refine tx_Mo_nearest 4 ?_
  have L : ∀ j, j ≤ dn D → ∀ (c best : Int), c = (j : Int) → best = nrs D u m b j → Go w K_Mo_nearest 6 [some (.inr (.inr (7, 43))), some (.inl (m : Int)), some (.inl (bi b)), some (.inl best), some (.inl c)] [] X (fun z Y => Y = X ∧ z = nrs D u m b (dn D)) := by
    refine lp ?_
    intro j hj ih c best hc hb
    subst hc
    refine sx_Mo_nearest ?_
    refine ⟨fun h => ?_, fun h => ?_⟩
    · have e : j = dn D := by omega
      subst e
      refine sx_Mo_nearest ?_
      exact ⟨trivial, rfl, hb⟩
    · have hjn : j < dn D := by omega
      have NX : ∀ best' : Int, best' = nrs D u m b (j + 1) → Go w K_Mo_nearest 51 [some (.inr (.inr (7, 43))), some (.inl (m : Int)), some (.inl (bi b)), some (.inl best'), some (.inl (j : Int))] [] X (fun z Y => Y = X ∧ z = nrs D u m b (dn D)) := by
        intro best' hb'
        refine sx_Mo_nearest ?_
        exact ih hjn _ _ (w1 rfl (by omega)) hb'
      have A1 := mo_may w hD hu hU hm hjn b
      refine ⟨trivial, _, A1, fun z Y hq => ?_⟩
      obtain ⟨rfl, rfl⟩ := hq
      refine sx_Mo_nearest ?_
      refine ⟨fun h1 => ?_, fun h1 => ⟨fun h2 => ?_, fun h2 => ?_⟩⟩
      · have hmay : ¬ may D u m j b := fun q => by rw [if_pos q] at h1; cases h1
        exact NX _ (by unfold nrs; rw [if_neg (fun q => hmay q.1)]; exact hb)
      · have hmay : may D u m j b := Decidable.byContradiction (fun q => by rw [if_neg q] at h1; exact h1 rfl)
        refine tx_Mo_nearest 2 ?_
        exact NX _ (by unfold nrs; rw [if_pos ⟨hmay, Or.inl (by rw [← hb]; exact h2)⟩])
      · have hmay : may D u m j b := Decidable.byContradiction (fun q => by rw [if_neg q] at h1; exact h1 rfl)
        have hr := (nrs_rng D u m b j).resolve_left (by rw [← hb]; exact h2)
        have A2 := mo_farOf w hD hm hjn
        have A3 := mo_farOf w hD hm (o := best.toNat) (by omega)
        rw [Int.toNat_of_nonneg (by omega)] at A3
        refine ⟨trivial, _, A2, fun z Y' hq => ?_⟩
        obtain ⟨rfl, rfl⟩ := hq
        refine sx_Mo_nearest ?_
        refine ⟨trivial, _, A3, fun z Y'' hq => ?_⟩
        obtain ⟨rfl, rfl⟩ := hq
        refine tx_Mo_nearest 1 ?_
        refine ⟨fun h3 => ?_, fun h3 => ?_⟩
        · exact NX _ (by
            unfold nrs
            rw [if_neg]
            · exact hb
            · intro q
              rcases q.2 with q | q
              · exact h2 (hb.trans q)
              · rw [← hb] at q; omega)
        · refine tx_Mo_nearest 2 ?_
          exact NX _ (by unfold nrs; rw [if_pos ⟨hmay, Or.inr (by rw [← hb]; exact h3)⟩])
  exact L 0 (Nat.zero_le _) 0 (-9) rfl rfl
theorem bi_not (c : Prop) [Decidable c] : bi (decide c) = if c then 1 else 0 := by
  unfold bi
  by_cases h : c <;> simp [h]
/-- the rows of a fight, by its four functions -/
theorem FM.mk {D : FD} {X : XS} {u f a l : Nat → Int} (h1 : ∀ m, m < dn D → X.1 55 m = u m) (h2 : ∀ m, m < dn D → X.1 56 m = f m) (h3 : ∀ m, m < dn D → X.1 57 m = a m) (h4 : ∀ m, m < dn D → X.1 58 m = l m) : FM D (u, f, a, l) X := fun m hm => ⟨h1 m hm, h2 m hm, h3 m hm, h4 m hm⟩
theorem mo_wake (w : WD) {D : FD} {X : XS} {F : FS} {law : Int} (hD : HM D X) (hF : FM D F X) (hW : WF D F) (hl : X.1 43 13 = law) {m : Nat} (hm : m < dn D) : MS w M_Mo_wake [.inr (.inr (7, 43)), .inl (m : Int)] X (fun _ Y => MF X Y ∧ FM D (F.1, wake D law F.1 F.2.1 m, F.2.2.1, F.2.2.2) Y) := by
  have h9 := hD.n9
  have hu : ∀ m, m < dn D → X.1 55 m = F.1 m := fun m hm => (hF m hm).1
  have hum := hW.1 m hm
  obtain ⟨g1, g2, g3, g4⟩ := hF m hm
  have NO : ¬ (F.1 m = 1 ∧ F.2.1 m = -9) → MF X X ∧ FM D (F.1, wake D law F.1 F.2.1 m, F.2.2.1, F.2.2.2) X := by
    intro h
    unfold wake
    rw [if_neg h]
    exact ⟨MF.rf X, hF⟩
  have FIN : F.1 m = 1 → F.2.1 m = -9 → ∀ z y : Int, z = wkf D law F.1 m → Go w K_Mo_wake 68 [some (.inr (.inr (7, 43))), some (.inl (m : Int)), some (.inl y)] [.inl z, .inl (m : Int), .inr (.inr (8, 56))] X (fun _ Y => MF X Y ∧ FM D (F.1, wake D law F.1 F.2.1 m, F.2.2.1, F.2.2.2) Y) := by
    intro e1 e2 z y hz
    refine sx_Mo_wake ?_
    refine ⟨(by omega), (by show _ < ((9 : Nat) : Int); omega), (MF.rf X).up (by omega), FM.mk (fun q hq => ?_) (fun q hq => ?_) (fun q hq => ?_) (fun q hq => ?_)⟩
    · simp [up_g, (hF q hq).1]
    · unfold wake
      rw [if_pos ⟨e1, e2⟩, hz]
      have := (hF q hq).2.1
      by_cases e : q = m
      · subst e; simp [up_g, u1]
      · simp [up_g, u1, e, this]
    · simp [up_g, (hF q hq).2.2.1]
    · simp [up_g, (hF q hq).2.2.2]
  refine mk_Mo_wake rfl ?_
  refine tx_Mo_wake 5 ?_
  refine ⟨(by omega), (by show _ < ((9 : Nat) : Int); omega), fun h => ?_, fun h => ?_⟩
  · refine sx_Mo_wake ?_
    have h : X.1 55 m = 0 := h
    exact NO (fun q => by omega)
  · have h : X.1 55 m ≠ 0 := h
    refine sx_Mo_wake ?_
    refine ⟨(by omega), (by show _ < ((9 : Nat) : Int); omega), fun h2 => ?_, fun h2 => ?_⟩
    · have h2 : X.1 56 m = -9 := h2
      have A : ∀ b : Bool, b = decide (law ≠ 0) → Go w K_Mo_wake 35 [some (.inr (.inr (7, 43))), some (.inl (m : Int)), none] [.inl (bi b), .inl (m : Int), .inr (.inr (7, 43))] X (fun _ Y => MF X Y ∧ FM D (F.1, wake D law F.1 F.2.1 m, F.2.2.1, F.2.2.2) Y) := by
        intro b hb
        refine sx_Mo_wake ?_
        refine ⟨trivial, _, mo_nearest w hD hu hW.1 hm b, fun z Y hq => ?_⟩
        obtain ⟨rfl, rfl⟩ := hq
        refine sx_Mo_wake ?_
        have e1 : F.1 m = 1 := by omega
        have e2 : F.2.1 m = -9 := by omega
        have hwk : wkf D law F.1 m = if nrs D F.1 m b (dn D) = -9 ∧ law = 2 then nrs D F.1 m false (dn D) else nrs D F.1 m b (dn D) := by rw [hb]; rfl
        refine ⟨fun h3 => ?_, fun h3 => ⟨fun h4 => ?_, fun h4 => ?_⟩⟩
        · refine tx_Mo_wake 1 ?_
          exact FIN e1 e2 _ _ (by rw [hwk, if_neg (fun q => h3 q.1)])
        · have h4 : Y.1 43 13 ≠ 2 := h4
          refine tx_Mo_wake 1 ?_
          exact FIN e1 e2 _ _ (by rw [hwk, if_neg (fun q => h4 (hl.trans q.2))])
        · have h4 : Y.1 43 13 = 2 := h4
          refine ⟨trivial, _, mo_nearest w hD hu hW.1 hm false, fun z Y' hq => ?_⟩
          obtain ⟨rfl, rfl⟩ := hq
          refine sx_Mo_wake ?_
          exact FIN e1 e2 _ _ (by rw [hwk, if_pos ⟨h3, hl.symm.trans h4⟩])
      refine sx_Mo_wake ?_
      refine ⟨fun h3 => ?_, fun h3 => ?_⟩
      · refine tx_Mo_wake 1 ?_
        have h3 : X.1 43 13 = 0 := h3
        exact A false (by rw [hl] at h3; simp [h3])
      · have h3 : X.1 43 13 ≠ 0 := h3
        exact A true (by rw [hl] at h3; simp [h3])
    · have h2 : X.1 56 m ≠ -9 := h2
      exact NO (fun q => by omega)
/-- who struck whom -/
def SB (D : FD) (foe : Nat → Int) (X : XS) : Prop := ∀ f, f < dn D → X.1 59 f = ((bsN (fun x => if foe x = (f : Int) then 1 else 0) (dn D) : Nat) : Int)
theorem mo_strike (w : WD) {D : FD} {X : XS} {F : FS} (hD : HM D X) (hF : FM D F X) (hW : WF D F) : MS w M_Mo_strikeAll [.inr (.inr (7, 43))] X (fun _ Y => MF X Y ∧ FM D (F.1, F.2.1, stkA D F.2.1 F.2.2.1 (dn D), F.2.2.2) Y ∧ SB D F.2.1 Y) := by
  have h9 := hD.n9
  refine mk_Mo_strikeAll rfl ?_
  refine tx_Mo_strikeAll 2 ?_
  have L2 : ∀ j, j ≤ dn D → ∀ (c : Int) (Y : XS), c = (j : Int) → MF X Y → FM D (F.1, F.2.1, stkA D F.2.1 F.2.2.1 j, F.2.2.2) Y → (∀ f, f < dn D → Y.1 59 f = ((bsN (fun x => if F.2.1 x = (f : Int) then 1 else 0) j : Nat) : Int)) → Go w K_Mo_strikeAll 25 [some (.inr (.inr (7, 43))), some (.inl c)] [] Y (fun _ Y => MF X Y ∧ FM D (F.1, F.2.1, stkA D F.2.1 F.2.2.1 (dn D), F.2.2.2) Y ∧ SB D F.2.1 Y) := by
    refine lp ?_
    intro j hj ih c Y hc hM hFM hSB
    subst hc
    have hD' := hD.mf hM
    have hn : Y.1 43 7 = (dn D : Int) := hD'.1
    refine sx_Mo_strikeAll ?_
    refine ⟨fun h => ?_, fun h => ?_⟩
    · have e : j = dn D := by omega
      subst e
      refine sx_Mo_strikeAll ?_
      exact ⟨hM, hFM, hSB⟩
    · have hjn : j < dn D := by omega
      have hfoe : Y.1 56 j = F.2.1 j := (hFM j hjn).2.1
      refine ⟨(by omega), (by show _ < ((9 : Nat) : Int); omega), fun h1 => ?_, fun h1 => ?_⟩
      · have h1 : Y.1 56 j = -9 := h1
        have e9 : F.2.1 j = -9 := by omega
        refine sx_Mo_strikeAll ?_
        refine ih hjn _ _ (w1 rfl (by omega)) hM ?_ (fun f hf => ?_)
        · rw [stkA_s, if_pos e9]
          exact hFM
        · rw [hSB f hf]
          rw [bsN_s, if_neg (by rw [if_neg (by omega)]; decide)]
      · have h1 : Y.1 56 j ≠ -9 := h1
        have hr := (hW.2 j hjn).resolve_left (by omega)
        obtain ⟨f, hf⟩ : ∃ f : Nat, F.2.1 j = (f : Int) := ⟨(F.2.1 j).toNat, by omega⟩
        have hff : Y.1 56 j = (f : Int) := hfoe.trans hf
        have A1 := mo_blow w hD' hjn
        have hb : bsN (fun x => if F.2.1 x = (f : Int) then 1 else 0) j < 512 := bs512 (by omega)
        refine ⟨(by omega), (by show _ < ((9 : Nat) : Int); omega), by show 0 ≤ Y.1 56 j; omega, by show Y.1 56 j < ((9 : Nat) : Int); omega, trivial, _, A1, fun z Y' hq => ?_⟩
        obtain ⟨rfl, rfl⟩ := hq
        refine sx_Mo_strikeAll ?_
        refine ⟨by show 0 ≤ Y'.1 56 j; omega, by show Y'.1 56 j < ((9 : Nat) : Int); omega, (by omega), (by show _ < ((9 : Nat) : Int); omega), by show 0 ≤ Y'.1 56 j; omega, by show Y'.1 56 j < ((9 : Nat) : Int); omega, (by omega), (by omega), by show 0 ≤ Y'.1 56 j; omega, by show Y'.1 56 j < ((9 : Nat) : Int); omega, ?_⟩
        refine ih hjn _ _ (w1 rfl (by omega)) (MF.up (MF.up hM (by omega)) (by omega)) (fun q hq => ?_) (fun q hq => ?_)
        · obtain ⟨q1, q2, q3, q4⟩ := hFM q hq
          have q5 := (hFM f (by omega)).2.2.1
          rw [stkA_s, if_neg (by omega), hf]
          by_cases e : q = f
          · subst e
            simp [up_g, hff, q1, q2, q4, u1, q5]
          · simp [up_g, hff, q1, q2, q3, q4, u1, e]
        · have hq0 := hSB q hq
          rw [bsN_s]
          by_cases e : q = f
          · subst e
            rw [if_pos (by rw [if_pos hf])]
            simp only [up_g, hff, Int.toNat_natCast]
            simp [hq0, sh2 (show j < 31 by omega), bo1 hb (show j < 9 by omega)]
          · rw [if_neg (by rw [if_neg (by omega)]; decide)]
            simp [up_g, hff, e, hq0]
  have L1 : ∀ j, j ≤ dn D → ∀ (c : Int) (Y : XS), c = (j : Int) → MF X Y → FM D F Y → (∀ f, f < j → Y.1 59 f = 0) → Go w K_Mo_strikeAll 2 [some (.inr (.inr (7, 43))), some (.inl c)] [] Y (fun _ Y => MF X Y ∧ FM D (F.1, F.2.1, stkA D F.2.1 F.2.2.1 (dn D), F.2.2.2) Y ∧ SB D F.2.1 Y) := by
    refine lp ?_
    intro j hj ih c Y hc hM hFM h0
    subst hc
    have hn : Y.1 43 7 = (dn D : Int) := (hD.mf hM).1
    refine sx_Mo_strikeAll ?_
    refine ⟨fun h => ?_, fun h => ?_⟩
    · have e : j = dn D := by omega
      subst e
      refine tx_Mo_strikeAll 2 ?_
      exact L2 0 (Nat.zero_le _) 0 Y rfl hM hFM (fun f hf => h0 f hf)
    · have hjn : j < dn D := by omega
      refine ⟨(by omega), (by show _ < ((9 : Nat) : Int); omega), ?_⟩
      refine ih hjn _ _ (w1 rfl (by omega)) (hM.up (by omega)) (fun q hq => ?_) (fun f hf => ?_)
      · simp [up_g, hFM q hq]
      · by_cases e : f = j
        · simp [up_g, e]
        · simp [up_g, e, h0 f (by omega)]
  exact L1 0 (Nat.zero_le _) 0 X rfl (MF.rf X) hF (fun f hf => absurd hf (Nat.not_lt_zero f))
theorem mo_fall (w : WD) {D : FD} {X : XS} {F : FS} {mn : Int} (hD : HM D X) (hF : FM D F X) (hW : WF D F) : MS w M_Mo_fallAll [.inr (.inr (7, 43)), .inl mn] X (fun _ Y => MF X Y ∧ FM D (fUp F.1 F.2.2.1, fFoe2 (fUp F.1 F.2.2.1) (fFoe F.1 F.2.2.1 F.2.1), F.2.2.1, fFell F.1 F.2.2.1 F.2.2.2 mn) Y ∧ Y.1 59 = X.1 59) := by
  have h9 := hD.n9
  refine mk_Mo_fallAll rfl ?_
  refine tx_Mo_fallAll 2 ?_
  have L2 : ∀ j, j ≤ dn D → ∀ (c : Int) (Y : XS), c = (j : Int) → MF X Y → FM D (fUp F.1 F.2.2.1, fun q => if q < j then fFoe2 (fUp F.1 F.2.2.1) (fFoe F.1 F.2.2.1 F.2.1) q else fFoe F.1 F.2.2.1 F.2.1 q, F.2.2.1, fFell F.1 F.2.2.1 F.2.2.2 mn) Y → Y.1 59 = X.1 59 → Go w K_Mo_fallAll 58 [some (.inr (.inr (7, 43))), some (.inl mn), some (.inl c)] [] Y (fun _ Y => MF X Y ∧ FM D (fUp F.1 F.2.2.1, fFoe2 (fUp F.1 F.2.2.1) (fFoe F.1 F.2.2.1 F.2.1), F.2.2.1, fFell F.1 F.2.2.1 F.2.2.2 mn) Y ∧ Y.1 59 = X.1 59) := by
    refine lp ?_
    intro j hj ih c Y hc hM hFM h59
    subst hc
    have hn : Y.1 43 7 = (dn D : Int) := (hD.mf hM).1
    refine sx_Mo_fallAll ?_
    refine ⟨fun h => ?_, fun h => ?_⟩
    · have e : j = dn D := by omega
      subst e
      refine sx_Mo_fallAll ?_
      refine ⟨hM, fun q hq => ?_, h59⟩
      have := hFM q hq
      dsimp only at this
      rw [if_pos hq] at this
      exact this
    · have hjn : j < dn D := by omega
      have hfoe : Y.1 56 j = fFoe F.1 F.2.2.1 F.2.1 j := by
        have := (hFM j hjn).2.1
        dsimp only at this
        rw [if_neg (Nat.lt_irrefl j)] at this
        exact this
      have hFR := fFoe_fr (u := F.1) (a := F.2.2.1) hW.2 j hjn
      have NX : ∀ z : Int, z = fFoe2 (fUp F.1 F.2.2.1) (fFoe F.1 F.2.2.1 F.2.1) j → Go w K_Mo_fallAll 107 [some (.inr (.inr (7, 43))), some (.inl mn), some (.inl (j : Int))] [.inl z, .inl (j : Int), .inr (.inr (8, 56))] Y (fun _ Y => MF X Y ∧ FM D (fUp F.1 F.2.2.1, fFoe2 (fUp F.1 F.2.2.1) (fFoe F.1 F.2.2.1 F.2.1), F.2.2.1, fFell F.1 F.2.2.1 F.2.2.2 mn) Y ∧ Y.1 59 = X.1 59) := by
        intro z hz
        refine sx_Mo_fallAll ?_
        refine ⟨(by omega), (by show _ < ((9 : Nat) : Int); omega), ?_⟩
        refine ih hjn _ _ (w1 rfl (by omega)) (hM.up (by omega)) (fun q hq => ?_) ?_
        · have := hFM q hq
          dsimp only at this
          by_cases e : q = j
          · subst e
            simp [up_g, this, hz]
          · have e2 : (q < j + 1) = (q < j) := by apply propext; omega
            simp [up_g, this, e, e2]
        · rw [← h59]
          funext q
          simp [up_g]
      refine ⟨(by omega), (by show _ < ((9 : Nat) : Int); omega), fun h1 => ?_, fun h1 => ⟨(by omega), (by show _ < ((9 : Nat) : Int); omega), by show 0 ≤ Y.1 56 j; have h1 : Y.1 56 j ≠ -9 := h1; omega, by show Y.1 56 j < ((9 : Nat) : Int); omega, fun h2 => ?_, fun h2 => ?_⟩⟩
      · have h1 : Y.1 56 j = -9 := h1
        refine tx_Mo_fallAll 4 ?_
        refine ⟨(by omega), (by show _ < ((9 : Nat) : Int); omega), ?_⟩
        exact NX _ (by show Y.1 56 j = _; unfold fFoe2; rw [if_neg (fun q => q.1 (by omega))]; exact hfoe)
      · have h1 : Y.1 56 j ≠ -9 := h1
        have h2 : Y.1 55 (Y.1 56 j).toNat ≠ 0 := h2
        have hu := (hFM (Y.1 56 j).toNat (by omega)).1
        dsimp only at hu
        have hu1 := fUp_u (a := F.2.2.1) hW.1 (Y.1 56 j).toNat (by omega)
        refine tx_Mo_fallAll 4 ?_
        refine ⟨(by omega), (by show _ < ((9 : Nat) : Int); omega), ?_⟩
        exact NX _ (by show Y.1 56 j = _; unfold fFoe2; rw [if_neg (fun q => by have := q.2; rw [← hfoe] at this; omega)]; exact hfoe)
      · have h1 : Y.1 56 j ≠ -9 := h1
        have h2 : Y.1 55 (Y.1 56 j).toNat = 0 := h2
        have hu := (hFM (Y.1 56 j).toNat (by omega)).1
        dsimp only at hu
        exact NX _ (by unfold fFoe2; rw [if_pos ⟨by omega, by rw [← hfoe]; omega⟩])
  have L1 : ∀ j, j ≤ dn D → ∀ (c : Int) (Y : XS), c = (j : Int) → MF X Y → FM D (fun q => if q < j then fUp F.1 F.2.2.1 q else F.1 q, fun q => if q < j then fFoe F.1 F.2.2.1 F.2.1 q else F.2.1 q, F.2.2.1, fun q => if q < j then fFell F.1 F.2.2.1 F.2.2.2 mn q else F.2.2.2 q) Y → Y.1 59 = X.1 59 → Go w K_Mo_fallAll 2 [some (.inr (.inr (7, 43))), some (.inl mn), some (.inl c)] [] Y (fun _ Y => MF X Y ∧ FM D (fUp F.1 F.2.2.1, fFoe2 (fUp F.1 F.2.2.1) (fFoe F.1 F.2.2.1 F.2.1), F.2.2.1, fFell F.1 F.2.2.1 F.2.2.2 mn) Y ∧ Y.1 59 = X.1 59) := by
    refine lp ?_
    intro j hj ih c Y hc hM hFM h59
    subst hc
    have hn : Y.1 43 7 = (dn D : Int) := (hD.mf hM).1
    refine sx_Mo_fallAll ?_
    refine ⟨fun h => ?_, fun h => ?_⟩
    · have e : j = dn D := by omega
      subst e
      refine tx_Mo_fallAll 2 ?_
      refine L2 0 (Nat.zero_le _) 0 Y rfl hM (fun q hq => ?_) h59
      have := hFM q hq
      dsimp only at this
      rw [if_pos hq, if_pos hq, if_pos hq] at this
      exact this
    · have hjn : j < dn D := by omega
      have hq := hFM j hjn
      dsimp only at hq
      rw [if_neg (Nat.lt_irrefl j), if_neg (Nat.lt_irrefl j), if_neg (Nat.lt_irrefl j)] at hq
      obtain ⟨q1, q2, q3, q4⟩ := hq
      have hu := hW.1 j hjn
      have NO : ¬ dies F.1 F.2.2.1 j → Go w K_Mo_fallAll 50 [some (.inr (.inr (7, 43))), some (.inl mn), some (.inl (j : Int))] [] Y (fun _ Y => MF X Y ∧ FM D (fUp F.1 F.2.2.1, fFoe2 (fUp F.1 F.2.2.1) (fFoe F.1 F.2.2.1 F.2.1), F.2.2.1, fFell F.1 F.2.2.1 F.2.2.2 mn) Y ∧ Y.1 59 = X.1 59) := by
        intro hd
        refine sx_Mo_fallAll ?_
        refine ih hjn _ _ (w1 rfl (by omega)) hM (fun q hq => ?_) h59
        have := hFM q hq
        dsimp only at this
        by_cases e : q = j
        · subst e
          simp [this, fUp, fFoe, fFell, hd]
        · have e2 : (q < j + 1) = (q < j) := by apply propext; omega
          simp only [e2]
          exact this
      refine ⟨(by omega), (by show _ < ((9 : Nat) : Int); omega), fun h1 => ?_, fun h1 => ⟨(by omega), (by show _ < ((9 : Nat) : Int); omega), fun h2 => ?_, fun h2 => ?_⟩⟩
      · have h1 : Y.1 55 j = 0 := h1
        exact NO (fun q => by have := q.1; omega)
      · have h2 : 0 < Y.1 57 j := h2
        exact NO (fun q => by have := q.2; omega)
      · have h1 : Y.1 55 j ≠ 0 := h1
        have h2 : Y.1 57 j ≤ 0 := h2
        have hd : dies F.1 F.2.2.1 j := ⟨by omega, by omega⟩
        refine ⟨(by omega), (by show _ < ((9 : Nat) : Int); omega), Or.inl rfl, (by omega), (by show _ < ((9 : Nat) : Int); omega), (by omega), (by show _ < ((9 : Nat) : Int); omega), ?_⟩
        refine ih hjn _ _ (w1 rfl (by omega)) (MF.up (MF.up (MF.up hM (by omega)) (by omega)) (by omega)) (fun q hq => ?_) ?_
        · have := hFM q hq
          dsimp only at this
          by_cases e : q = j
          · subst e
            simp [up_g, fUp, fFoe, fFell, hd, this]
          · have e2 : (q < j + 1) = (q < j) := by apply propext; omega
            simp only [e2]
            simp [up_g, e, this]
        · rw [← h59]
          funext q
          simp [up_g]
  refine L1 0 (Nat.zero_le _) 0 X rfl (MF.rf X) (fun q hq => ?_) rfl
  simp only [Nat.not_lt_zero, if_false]
  exact hF q hq

theorem fn1_s (p : Nat → Bool) (j k : Nat) : fn1 p j (k + 1) = if p j = true then (j : Int) else fn1 p (j + 1) k := rfl
theorem mo_turn (w : WD) {D : FD} {X : XS} {F : FS} {foe0 : Nat → Int} (hD : HM D X) (hF : FM D F X) (hW : WF D F) (hS : SB D foe0 X) {m : Nat} (hm : m < dn D) : MS w M_Mo_turn [.inr (.inr (7, 43)), .inl (m : Int)] X (fun _ Y => MF X Y ∧ FM D (F.1, u1 F.2.1 m (fTrn D F.1 foe0 F.2.1 m), F.2.2.1, F.2.2.2) Y ∧ Y.1 59 = X.1 59) := by
  have h9 := hD.n9
  have hn : X.1 43 7 = (dn D : Int) := hD.1
  obtain ⟨g1, g2, g3, g4⟩ := hF m hm
  have hum := hW.1 m hm
  have SAME : F.2.1 m = fTrn D F.1 foe0 F.2.1 m → MF X X ∧ FM D (F.1, u1 F.2.1 m (fTrn D F.1 foe0 F.2.1 m), F.2.2.1, F.2.2.2) X ∧ X.1 59 = X.1 59 := by
    intro h
    refine ⟨MF.rf X, fun q hq => ?_, rfl⟩
    have := hF q hq
    by_cases e : q = m
    · subst e
      simp [u1, this, ← h]
    · simp [u1, e, this]
  have NO : ¬ (F.1 m = 1 ∧ F.2.1 m = -9) → F.2.1 m = fTrn D F.1 foe0 F.2.1 m := by
    intro h
    unfold fTrn
    rw [if_neg h]
  refine mk_Mo_turn rfl ?_
  refine tx_Mo_turn 5 ?_
  refine ⟨(by omega), (by show _ < ((9 : Nat) : Int); omega), fun h => ?_, fun h => ?_⟩
  · refine sx_Mo_turn ?_
    have h : X.1 55 m = 0 := h
    exact SAME (NO (fun q => by omega))
  · have h : X.1 55 m ≠ 0 := h
    refine sx_Mo_turn ?_
    refine ⟨(by omega), (by show _ < ((9 : Nat) : Int); omega), fun h2 => ?_, fun h2 => ?_⟩
    · have h2 : X.1 56 m = -9 := h2
      have hT : fTrn D F.1 foe0 F.2.1 m = trn D F.1 foe0 m := by unfold fTrn; rw [if_pos ⟨by omega, by omega⟩]
      refine tx_Mo_turn 2 ?_
      have L : ∀ j, j ≤ dn D → ∀ c : Int, c = (j : Int) → trn D F.1 foe0 m = fn1 (fun x => decide (foe0 x = (m : Int) ∧ F.1 x = 1 ∧ df D m x ≤ rch (dk D m))) j (dn D - j) → Go w K_Mo_turn 23 [some (.inr (.inr (7, 43))), some (.inl (m : Int)), some (.inl c)] [] X (fun _ Y => MF X Y ∧ FM D (F.1, u1 F.2.1 m (fTrn D F.1 foe0 F.2.1 m), F.2.2.1, F.2.2.2) Y ∧ Y.1 59 = X.1 59) := by
        refine lp ?_
        intro j hj ih c hc hI
        subst hc
        refine sx_Mo_turn ?_
        refine ⟨fun h3 => ?_, fun h3 => ?_⟩
        · have e : j = dn D := by omega
          subst e
          refine sx_Mo_turn ?_
          rw [Nat.sub_self] at hI
          have hI : trn D F.1 foe0 m = -9 := hI
          exact SAME (by rw [hT, hI]; omega)
        · have hjn : j < dn D := by omega
          rw [show dn D - j = (dn D - (j + 1)) + 1 by omega, fn1_s] at hI
          have hu := (hF j hjn).1
          have hU := hW.1 j hjn
          have NX : ¬ (foe0 j = (m : Int) ∧ F.1 j = 1 ∧ df D m j ≤ rch (dk D m)) → Go w K_Mo_turn 76 [some (.inr (.inr (7, 43))), some (.inl (m : Int)), some (.inl (j : Int))] [] X (fun _ Y => MF X Y ∧ FM D (F.1, u1 F.2.1 m (fTrn D F.1 foe0 F.2.1 m), F.2.2.1, F.2.2.2) Y ∧ Y.1 59 = X.1 59) := by
            intro hno
            rw [if_neg (by simpa using hno)] at hI
            refine sx_Mo_turn ?_
            exact ih hjn _ (w1 rfl (by omega)) hI
          have hb : ia (X.1 59 m / 2 ^ j) 1 = if (bsN (fun x => if foe0 x = (m : Int) then 1 else 0) (dn D)).testBit j then 1 else 0 := by rw [hS m hm]; exact bt1 (bs512 h9) (by omega)
          rw [bsN_bit] at hb
          refine ⟨(by omega), (by show _ < ((9 : Nat) : Int); omega), (by omega), (by omega), fun h4 => ?_, fun h4 => ⟨(by omega), (by show _ < ((9 : Nat) : Int); omega), fun h5 => ?_, fun h5 => ?_⟩⟩
          · have h4 : ia (X.1 59 m / 2 ^ j) 1 ≠ 1 := h4
            exact NX (fun q => h4 (by rw [hb, if_pos (by simp [hjn, q.1])]))
          · have h5 : X.1 55 j = 0 := h5
            exact NX (fun q => by omega)
          · have h4 : ia (X.1 59 m / 2 ^ j) 1 = 1 := h4
            have h5 : X.1 55 j ≠ 0 := h5
            have hfj : foe0 j = (m : Int) := Decidable.byContradiction (fun q => by rw [hb, if_neg (by simp [q])] at h4; cases h4)
            refine ⟨trivial, _, mo_farOf w hD hm hjn, fun z Y hq => ?_⟩
            obtain ⟨rfl, rfl⟩ := hq
            refine sx_Mo_turn ?_
            refine ⟨trivial, _, mo_reach w hD hm, fun z Y' hq => ?_⟩
            obtain ⟨rfl, rfl⟩ := hq
            refine sx_Mo_turn ?_
            refine ⟨fun h6 => ?_, fun h6 => ?_⟩
            · exact NX (fun q => by omega)
            · have hyes : foe0 j = (m : Int) ∧ F.1 j = 1 ∧ df D m j ≤ rch (dk D m) := ⟨hfj, by omega, h6⟩
              rw [if_pos (by simpa using hyes)] at hI
              refine ⟨(by omega), (by show _ < ((9 : Nat) : Int); omega), (MF.rf _).up (by omega), fun q hq => ?_, ?_⟩
              · have := hF q hq
                by_cases e : q = m
                · subst e
                  simp [up_g, u1, this, hT, hI]
                · simp [up_g, u1, this, e]
              · funext q
                simp [up_g]
      exact L 0 (Nat.zero_le _) 0 rfl rfl
    · have h2 : X.1 56 m ≠ -9 := h2
      exact SAME (NO (fun q => by omega))
