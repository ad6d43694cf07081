/-! ===== cells of a sheet ===== -/
theorem c_at (w : WD) {X : XS} {k i : Nat} (hk : k < 4) (hi : (i : Int) < X.1 (3 + 2 * k) 3) (h6 : X.1 (3 + 2 * k) 3 ≤ 60) : MS w M_Sh_at [.inr (.inr (3, 3 + 2 * k)), .inl (i : Int)] X (fun z Y => Y = X ∧ z = X.1 (3 + 2 * k + 1) i) := by
  have hl := len_sh hk
  refine mk_Sh_at rfl ?_
  refine sx_Sh_at ?_
  refine ⟨trivial, _, c_isBelow w X (i : Int) (X.1 (3 + 2 * k) 3), fun z Y hq => ?_⟩
  obtain ⟨rfl, rfl⟩ := hq
  refine sx_Sh_at ?_
  refine ⟨fun q => absurd (show 0 ≤ (i : Int) ∧ (i : Int) < Y.1 (3 + 2 * k) 3 by omega) (nif q), fun _ => ?_⟩
  refine ⟨(by omega), by show _ < ((ln 160 (3 + 2 * k + 1) : Nat) : Int); rw [hl]; omega, ?_⟩
  refine sx_Sh_at ?_
  exact ⟨trivial, rfl, rfl⟩
