/-! ===== cell ===== -/
theorem mo_lost (w : WD) (X : XS) (b : Int) : MS w M_Mo_lost [.inr (.inr (7, 43)), .inl b] X (fun z Y => Y = (up X.1 43 0 b, X.2) ∧ z = -9223372036854775808) := by
  refine mk_Mo_lost rfl ?_
  refine sx_Mo_lost ?_
  exact ⟨kc_Mo_81, rfl, rfl⟩
