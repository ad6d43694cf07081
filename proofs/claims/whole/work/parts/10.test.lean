theorem m_isBelow (w : WD) (X : XS) (v e : Int) : MS w M_Tf_isBelow [.inl v, .inl e] X (fun z X' => X' = X ∧ z = if 0 ≤ v ∧ v < e then 1 else 0) := by
  refine mk_Tf_isBelow rfl ?_
  refine sx_Tf_isBelow ?_
  refine ⟨fun h => ?_, fun h => ⟨fun h2 => ?_, fun h2 => ?_⟩⟩
  · refine sx_Tf_isBelow ?_
    exact ⟨Or.inl rfl, rfl, by rw [if_neg (by omega)]⟩
  · refine sx_Tf_isBelow ?_
    exact ⟨Or.inl rfl, rfl, by rw [if_neg (by omega)]⟩
  · refine sx_Tf_isBelow ?_
    exact ⟨Or.inr rfl, rfl, by rw [if_pos (by omega)]⟩
theorem m_has (w : WD) (X : XS) (b : Nat) (m : Int) : MS w M_Ho_has [.inr (.inr (1, b)), .inl m] X (fun z X' => X' = X ∧ z = if 0 ≤ m ∧ m < X.1 b 9 then 1 else 0) := by
  refine mk_Ho_has rfl ?_
  refine sx_Ho_has ?_
  refine ⟨trivial, _, m_isBelow w X _ _, fun z X' hq => ?_⟩
  obtain ⟨rfl, rfl⟩ := hq
  refine sx_Ho_has ?_
  exact ⟨by split <;> simp, rfl, rfl⟩
