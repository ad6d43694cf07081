/-! ===== the simple changes ===== -/
theorem PAIR.same {w : WD} {c m : MI} {as : List V} {X : XS} {r : Int} (hJ : J X) (hc : MS w c (.inr (.inr (6, 1)) :: as) X (fun z Y => Y = X ∧ z = r)) (hm : MS w m (.inr (.inr (7, 43)) :: as) X (fun z Y => Y = X ∧ z = r)) : ∃ Q1 : Int → XS → Prop, MS w c (.inr (.inr (6, 1)) :: as) X Q1 ∧ ∀ z Y, Q1 z Y → ∃ Q2 : Int → XS → Prop, MS w m (.inr (.inr (7, 43)) :: as) Y Q2 ∧ ∀ z' Z, Q2 z' Z → z' = z ∧ J Z := by
  refine ⟨_, hc, fun z Y hq => ?_⟩
  obtain ⟨rfl, rfl⟩ := hq
  refine ⟨_, hm, fun z' Z hq => ?_⟩
  obtain ⟨rfl, rfl⟩ := hq
  exact ⟨rfl, hJ⟩
theorem PAIR.set {w : WD} {c m : MI} {as : List V} {X Y1 Z1 : XS} {r : Int} (hc : MS w c (.inr (.inr (6, 1)) :: as) X (fun z Y => Y = Y1 ∧ z = r)) (hm : MS w m (.inr (.inr (7, 43)) :: as) Y1 (fun z Y => Y = Z1 ∧ z = r)) (hJ : J Z1) : ∃ Q1 : Int → XS → Prop, MS w c (.inr (.inr (6, 1)) :: as) X Q1 ∧ ∀ z Y, Q1 z Y → ∃ Q2 : Int → XS → Prop, MS w m (.inr (.inr (7, 43)) :: as) Y Q2 ∧ ∀ z' Z, Q2 z' Z → z' = z ∧ J Z := by
  refine ⟨_, hc, fun z Y hq => ?_⟩
  obtain ⟨rfl, rfl⟩ := hq
  refine ⟨_, hm, fun z' Z hq => ?_⟩
  obtain ⟨rfl, rfl⟩ := hq
  exact ⟨rfl, hJ⟩
theorem up2 {h : Nat → Nat → Int} {i k i' k' j : Nat} {z z' : Int} (h1 : j ≠ i) (h2 : j ≠ i') : up (up h i k z) i' k' z' j = h j := (up_ne h2).trans (up_ne h1)
theorem c_isUpTo (w : WD) (X : XS) (v e : Int) : MS w M_Tf_isUpTo [.inl v, .inl e] X (fun z Y => Y = X ∧ z = if 0 ≤ v ∧ v ≤ e then 1 else 0) := by
  refine mk_Tf_isUpTo rfl ?_
  refine sx_Tf_isUpTo ?_
  refine ⟨fun h => ?_, fun h => ⟨fun h2 => ?_, fun h2 => ?_⟩⟩
  · refine sx_Tf_isUpTo ?_
    exact ⟨Or.inl rfl, rfl, by rw [if_neg (by omega)]⟩
  · refine sx_Tf_isUpTo ?_
    exact ⟨Or.inl rfl, rfl, by rw [if_neg (by omega)]⟩
  · refine sx_Tf_isUpTo ?_
    exact ⟨Or.inr rfl, rfl, by rw [if_pos (by omega)]⟩
theorem nif {c : Prop} {inst : Decidable c} (h : (if c then (1 : Int) else 0) = 0) : ¬ c := fun q => by rw [if_pos q] at h; cases h
theorem pif {c : Prop} {inst : Decidable c} (h : (if c then (1 : Int) else 0) ≠ 0) : c := Decidable.byContradiction (fun q => h (if_neg q))
theorem p_law (w : WD) (v : Int) : PAIR w M_Tf_law M_Mo_law [.inl v] := by
  intro X h
  have hal := h.all
  by_cases h0 : 0 ≤ v ∧ v < 3
  · by_cases hs : X.1 1 8 = 0
    · have ha : X.1 43 5 * X.1 43 6 = 0 := by omega
      refine PAIR.same (r := -3) h ?_ ?_
      · refine mk_Tf_law rfl ?_
        refine sx_Tf_law ?_
        refine ⟨trivial, _, c_isBelow w X v 3, fun z Y hq => ?_⟩
        obtain ⟨rfl, rfl⟩ := hq
        refine sx_Tf_law ?_
        refine ⟨fun h1 => ?_, fun h1 => absurd h0 (nif h1)⟩
        refine sx_Tf_law ?_
        exact ⟨fun h2 => absurd hs h2, fun h2 => ⟨trivial, rfl, rfl⟩⟩
      · refine mk_Mo_law rfl ?_
        refine sx_Mo_law ?_
        refine ⟨trivial, _, mo_within w X v 0 2, fun z Y hq => ?_⟩
        obtain ⟨rfl, rfl⟩ := hq
        refine sx_Mo_law ?_
        refine ⟨fun h1 => ?_, fun h1 => absurd (show 0 ≤ v ∧ v ≤ 2 by omega) (nif h1)⟩
        refine sx_Mo_law ?_
        refine ⟨trivial, _, mo_all w h, fun z Y1 hq => ?_⟩
        obtain ⟨rfl, rfl⟩ := hq
        refine sx_Mo_law ?_
        exact ⟨fun h2 => absurd ha h2, fun h2 => ⟨trivial, rfl, rfl⟩⟩
    · have ha : X.1 43 5 * X.1 43 6 ≠ 0 := by omega
      have hl := h.2.2.2.1
      refine PAIR.set (r := X.1 1 9) (Y1 := (up X.1 1 9 v, X.2)) (Z1 := (up (up X.1 1 9 v) 43 13 v, X.2)) ?_ ?_ ?_
      · refine mk_Tf_law rfl ?_
        refine sx_Tf_law ?_
        refine ⟨trivial, _, c_isBelow w X v 3, fun z Y hq => ?_⟩
        obtain ⟨rfl, rfl⟩ := hq
        refine sx_Tf_law ?_
        refine ⟨fun h1 => ?_, fun h1 => absurd h0 (nif h1)⟩
        refine sx_Tf_law ?_
        refine ⟨fun h2 => ?_, fun h2 => absurd h2 hs⟩
        refine sx_Tf_law ?_
        exact ⟨trivial, rfl, rfl⟩
      · have r5 : (up X.1 1 9 v, X.2).1 43 = X.1 43 := by
          show up X.1 1 9 v 43 = X.1 43
          exact up_ne (by decide)
        refine mk_Mo_law rfl ?_
        refine sx_Mo_law ?_
        refine ⟨trivial, _, mo_within w _ v 0 2, fun z Y hq => ?_⟩
        obtain ⟨rfl, rfl⟩ := hq
        refine sx_Mo_law ?_
        refine ⟨fun h1 => ?_, fun h1 => absurd (show 0 ≤ v ∧ v ≤ 2 by omega) (nif h1)⟩
        have A : MS w M_Mo_all [.inr (.inr (7, 43))] (up X.1 1 9 v, X.2) (fun z Y => Y = (up X.1 1 9 v, X.2) ∧ z = X.1 43 5 * X.1 43 6) := by
          refine mk_Mo_all rfl ?_
          refine sx_Mo_all ?_
          refine ⟨trivial, rfl, ?_⟩
          rw [r5]
          exact wr_id (by omega) (by omega)
        refine sx_Mo_law ?_
        refine ⟨trivial, _, A, fun z Y1 hq => ?_⟩
        obtain ⟨rfl, rfl⟩ := hq
        refine sx_Mo_law ?_
        refine ⟨fun h2 => ?_, fun h2 => absurd h2 ha⟩
        refine sx_Mo_law ?_
        exact ⟨trivial, rfl, by show up X.1 1 9 v 43 13 = _; rw [up_ne (by decide)]; exact hl.1.symm⟩
      · obtain ⟨h1, h2, h3, h4, h5, h6, h7⟩ := h
        refine ⟨h1.cg (fun i hi => up2 (by omega) (by omega)), h2, h3.cg h2 rfl (fun i hi => up2 (by omega) (by omega)) (by simp [up_g]) (by simp [up_g]) (by simp [up_g]) (by simp [up_g]), ?_, h5.cg (fun i hi => up2 (by omega) (by omega)) (by simp [up_g]) (by simp [up_g]), h6.cg (fun i hi => up2 (by omega) (by omega)) (by simp [up_g]) (by simp [up_g]), ?_⟩
        · unfold JL
          simp [up_g]
          omega
        · unfold JX at h7 ⊢
          simp [up_g, h7]
  · refine PAIR.same (r := -2) h ?_ ?_
    · refine mk_Tf_law rfl ?_
      refine sx_Tf_law ?_
      refine ⟨trivial, _, c_isBelow w X v 3, fun z Y hq => ?_⟩
      obtain ⟨rfl, rfl⟩ := hq
      refine sx_Tf_law ?_
      exact ⟨fun h1 => absurd (pif h1) h0, fun h1 => ⟨trivial, rfl, rfl⟩⟩
    · refine mk_Mo_law rfl ?_
      refine sx_Mo_law ?_
      refine ⟨trivial, _, mo_within w X v 0 2, fun z Y hq => ?_⟩
      obtain ⟨rfl, rfl⟩ := hq
      refine sx_Mo_law ?_
      exact ⟨fun h1 => absurd (pif h1) (by omega), fun h1 => ⟨trivial, rfl, rfl⟩⟩
theorem c_wmm (w : WD) {X : XS} (h : J X) (a b : Int) : MS w M_Tf_wrongManOrMinute [.inr (.inr (6, 1)), .inl a, .inl b] X (fun z Y => Y = X ∧ z = if 0 ≤ a ∧ a < X.1 43 7 then (if 0 ≤ b ∧ b < 30 then 0 else -2) else -1) := by
  have A := c_has w X (X.2 0) a
  rw [h.2.2.1.2.1] at A
  refine mk_Tf_wrongManOrMinute rfl ?_
  refine sx_Tf_wrongManOrMinute ?_
  refine ⟨h.b0, trivial, _, A, fun z Y hq => ?_⟩
  obtain ⟨rfl, rfl⟩ := hq
  refine sx_Tf_wrongManOrMinute ?_
  refine ⟨fun h1 => ?_, fun h1 => ?_⟩
  · refine sx_Tf_wrongManOrMinute ?_
    refine ⟨trivial, _, c_isBelow w Y b 30, fun z Y1 hq => ?_⟩
    obtain ⟨rfl, rfl⟩ := hq
    refine sx_Tf_wrongManOrMinute ?_
    refine ⟨fun h2 => ?_, fun h2 => ?_⟩
    · refine sx_Tf_wrongManOrMinute ?_
      exact ⟨trivial, rfl, by rw [if_pos (pif h1), if_neg (nif h2)]⟩
    · refine sx_Tf_wrongManOrMinute ?_
      exact ⟨trivial, rfl, by rw [if_pos (pif h1), if_pos (pif h2)]⟩
  · exact ⟨trivial, rfl, by rw [if_neg (nif h1)]⟩
/-- a stone is laid on a row of stones with room -/
theorem c_add (w : WD) (X : XS) {t : Nat} (a b : Int) {n : Nat} (hn : X.1 t 2 = (n : Int)) (h1 : n < len (t + 1)) (h2 : n < len (t + 2)) (h3 : n < 100) : MS w M_St_add [.inr (.inr (4, t)), .inl a, .inl b] X (fun z Y => Y = (up (up (up X.1 (t + 1) n a) (t + 2) n b) t 2 ((n + 1 : Nat) : Int), X.2) ∧ z = 1) := by
  have n0 : (X.1 t 2).toNat = n := by rw [hn]; rfl
  have e1 : up X.1 (t + 1) (X.1 t 2).toNat a t 2 = (n : Int) := by rw [up_g, if_neg (by omega)]; exact hn
  have e2 : up (up X.1 (t + 1) n a) (t + 2) n b t 2 = (n : Int) := by rw [up_g, if_neg (by omega), up_g, if_neg (by omega)]; exact hn
  refine mk_St_add rfl ?_
  refine sx_St_add ?_
  refine ⟨fun h => ?_, fun h => ?_⟩
  · refine sx_St_add ?_
    refine ⟨by show 0 ≤ X.1 t 2; omega, by show X.1 t 2 < ((len (t + 1) : Nat) : Int); omega, by show 0 ≤ up X.1 (t + 1) (X.1 t 2).toNat a t 2; omega, by show up X.1 (t + 1) (X.1 t 2).toNat a t 2 < ((len (t + 2) : Nat) : Int); omega, Or.inr rfl, ?_, rfl⟩
    dsimp only
    rw [e1, n0, Int.toNat_natCast, e2, wr_id (by omega) (by omega)]
    rfl
  · have hx : ((len (t + 1) : Nat) : Int) ≤ X.1 t 2 := h
    omega
