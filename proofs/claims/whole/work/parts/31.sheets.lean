/-! ===== sheets ===== -/
/-- only sheets, trace and fault are other -/
theorem J.sh {X Y : XS} (h : J X) (g : ∀ i, i = 0 ∨ i = 2 ∨ (10 < i ∧ i < 43) ∨ 46 < i → Y.1 i = X.1 i) (g2 : Y.2 = X.2) (g3 : ∀ k, k < 10 → Y.1 1 k = X.1 1 k) (g4 : ∀ k, 2 ≤ k → Y.1 43 k = X.1 43 k) (g5 : Y.1 1 10 = Y.1 43 1) (g6 : Y.1 1 11 = Y.1 43 0) (hs : JS Y) : J Y := by
  obtain ⟨-, h2, h3, h4, h5, h6, h7⟩ := h
  refine ⟨hs, by unfold JR; rw [g2]; exact h2, JF.cg h3 h2 (by rw [g2]) (fun i hi => g i (by omega)) (g3 8 (by omega)) (g4 5 (by omega)) (g4 6 (by omega)) (g4 7 (by omega)), JL.cg h4 (g3 9 (by omega)) (g4 13 (by omega)), JT.cg h5 (fun i hi => g i (by omega)) (g4 19 (by omega)) (g4 7 (by omega)), JD.cg h6 (fun i hi => g i (by omega)) (g4 29 (by omega)) (g4 7 (by omega)), ?_⟩
  unfold JX
  rw [g4 22 (by omega), g4 23 (by omega)]
  exact ⟨h7.1, h7.2.1, g5, g6⟩
theorem p_lose (w : WD) (a : Int) : PAIR w M_Tf_lose M_Mo_lose [.inl a] := by
  intro X h
  by_cases h0 : 0 ≤ a ∧ a < 4
  · obtain ⟨k, rfl⟩ := Int.eq_ofNat_of_zero_le h0.1
    have hk : k < 4 := by omega
    have hS := h.1 k hk
    refine PAIR.set (r := X.1 (3 + 2 * k) 1) (Y1 := (up X.1 (3 + 2 * k) 1 0, X.2)) (Z1 := (up (up X.1 (3 + 2 * k) 1 0) 44 k (-9), X.2)) ?_ ?_ ?_
    · refine mk_Tf_lose rfl ?_
      refine sx_Tf_lose ?_
      refine ⟨trivial, _, c_isBelow w X (k : Int) 4, fun z Y hq => ?_⟩
      obtain ⟨rfl, rfl⟩ := hq
      refine sx_Tf_lose ?_
      refine ⟨fun _ => ?_, fun q => absurd h0 (nif q)⟩
      refine sx_Tf_lose ?_
      refine ⟨(by omega), (by omega), fun q => ?_, fun q => ?_⟩
      · have q : Y.1 (3 + 2 * k) 1 = 0 := q
        refine sx_Tf_lose ?_
        exact ⟨(by omega), (by omega), Or.inl rfl, trivial, rfl, q.symm⟩
      · have q : Y.1 (3 + 2 * k) 1 ≠ 0 := q
        refine sx_Tf_lose ?_
        exact ⟨(by omega), (by omega), Or.inl rfl, trivial, rfl, by show (1 : Int) = _; omega⟩
    · have r44 : up X.1 (3 + 2 * k) 1 0 44 k = X.1 44 k := by rw [up_ne (by omega)]
      refine mk_Mo_lose rfl ?_
      refine sx_Mo_lose ?_
      refine ⟨trivial, _, mo_isSheet w _ (k : Int), fun z Y hq => ?_⟩
      obtain ⟨rfl, rfl⟩ := hq
      refine sx_Mo_lose ?_
      refine ⟨fun _ => ?_, fun q => absurd (show 0 ≤ (k : Int) ∧ (k : Int) ≤ 3 by omega) (nif q)⟩
      refine sx_Mo_lose ?_
      refine ⟨(by omega), by show _ < ((4 : Nat) : Int); omega, fun q => ?_, fun q => ?_⟩
      · have q : up X.1 (3 + 2 * k) 1 0 44 k ≠ -9 := q
        rw [r44] at q
        refine sx_Mo_lose ?_
        exact ⟨(by omega), by show _ < ((4 : Nat) : Int); omega, trivial, rfl, by show (1 : Int) = _; omega⟩
      · have q : up X.1 (3 + 2 * k) 1 0 44 k = -9 := q
        rw [r44] at q
        refine sx_Mo_lose ?_
        exact ⟨(by omega), by show _ < ((4 : Nat) : Int); omega, trivial, rfl, by show (0 : Int) = _; omega⟩
    · have e1 : ∀ i, i ≠ 3 + 2 * k → i ≠ 44 → up (up X.1 (3 + 2 * k) 1 0) 44 k (-9) i = X.1 i := fun i p q => by rw [up_ne q, up_ne p]
      refine h.sh (fun i hi => e1 i (by omega) (by omega)) rfl (fun i _ => by rw [show (up (up X.1 (3 + 2 * k) 1 0) 44 k (-9), X.2).1 1 = X.1 1 from e1 1 (by omega) (by omega)]) (fun i _ => by rw [show (up (up X.1 (3 + 2 * k) 1 0) 44 k (-9), X.2).1 43 = X.1 43 from e1 43 (by omega) (by omega)]) ?_ ?_ (fun q hq => ?_)
      · rw [show (up (up X.1 (3 + 2 * k) 1 0) 44 k (-9), X.2).1 1 = X.1 1 from e1 1 (by omega) (by omega), show (up (up X.1 (3 + 2 * k) 1 0) 44 k (-9), X.2).1 43 = X.1 43 from e1 43 (by omega) (by omega)]
        exact h.2.2.2.2.2.2.2.2.1
      · rw [show (up (up X.1 (3 + 2 * k) 1 0) 44 k (-9), X.2).1 1 = X.1 1 from e1 1 (by omega) (by omega), show (up (up X.1 (3 + 2 * k) 1 0) 44 k (-9), X.2).1 43 = X.1 43 from e1 43 (by omega) (by omega)]
        exact h.2.2.2.2.2.2.2.2.2
      · by_cases e : q = k
        · subst e
          left
          show up (up X.1 (3 + 2 * q) 1 0) 44 q (-9) (3 + 2 * q) 1 = 0 ∧ up (up X.1 (3 + 2 * q) 1 0) 44 q (-9) 44 q = -9
          rw [up_ne (show 3 + 2 * q ≠ 44 by omega), up_row, u1_s, up_row, u1_s]
          exact ⟨rfl, rfl⟩
        · have hq' := h.1 q hq
          have r44 : up (up X.1 (3 + 2 * k) 1 0) 44 k (-9) 44 q = X.1 44 q := by rw [up_row, u1_n e, up_ne (by omega)]
          rw [show (up (up X.1 (3 + 2 * k) 1 0) 44 k (-9), X.2).1 (3 + 2 * q) = X.1 (3 + 2 * q) from e1 (3 + 2 * q) (by omega) (by omega), show (up (up X.1 (3 + 2 * k) 1 0) 44 k (-9), X.2).1 (3 + 2 * q + 1) = X.1 (3 + 2 * q + 1) from e1 (3 + 2 * q + 1) (show 3 + 2 * q + 1 ≠ 3 + 2 * k by omega) (show 3 + 2 * q + 1 ≠ 44 by omega), show (up (up X.1 (3 + 2 * k) 1 0) 44 k (-9), X.2).1 45 = X.1 45 from e1 45 (show 45 ≠ 3 + 2 * k by omega) (by decide), show (up (up X.1 (3 + 2 * k) 1 0) 44 k (-9), X.2).1 46 = X.1 46 from e1 46 (show 46 ≠ 3 + 2 * k by omega) (by decide), show (up (up X.1 (3 + 2 * k) 1 0) 44 k (-9), X.2).1 44 q = X.1 44 q from r44]
          exact hq'
  · refine PAIR.same (r := -1) h ?_ ?_
    · refine mk_Tf_lose rfl ?_
      refine sx_Tf_lose ?_
      refine ⟨trivial, _, c_isBelow w X a 4, fun z Y hq => ?_⟩
      obtain ⟨rfl, rfl⟩ := hq
      refine sx_Tf_lose ?_
      exact ⟨fun q => absurd (pif q) h0, fun q => ⟨trivial, rfl, rfl⟩⟩
    · refine mk_Mo_lose rfl ?_
      refine sx_Mo_lose ?_
      refine ⟨trivial, _, mo_isSheet w X a, fun z Y hq => ?_⟩
      obtain ⟨rfl, rfl⟩ := hq
      refine sx_Mo_lose ?_
      exact ⟨fun q => absurd (pif q) (fun z => h0 (by omega)), fun q => ⟨trivial, rfl, rfl⟩⟩
