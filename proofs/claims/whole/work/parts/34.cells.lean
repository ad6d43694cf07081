/-! ===== cells of a sheet ===== -/
theorem c_at (w : WD) {X : XS} {k i : Nat} (hk : k < 4) (hi : (i : Int) < X.1 (3 + 2 * k) 3) (h6 : X.1 (3 + 2 * k) 3 ≤ 60) : MS w M_Sh_at [.inr (.inr (3, 3 + 2 * k)), .inl (i : Int)] X (fun z Y => Y = X ∧ z = X.1 (3 + 2 * k + 1) i) := by
  have hl := len_sh hk
  refine mk_Sh_at rfl ?_
  refine sx_Sh_at ?_
  refine ⟨trivial, _, c_isBelow w X (i : Int) (X.1 (3 + 2 * k) 3), fun z Y hq => ?_⟩
  obtain ⟨rfl, rfl⟩ := hq
  refine sx_Sh_at ?_
  refine ⟨fun q => absurd (show 0 ≤ (i : Int) ∧ (i : Int) < Y.1 (3 + 2 * k) 3 by omega) (nif q), fun _ => ?_⟩
  refine ⟨(by omega), by show _ < ((ln 160 (3 + 2 * k + 1) : Nat) : Int); rw [hl]; omega, ?_⟩
  refine sx_Sh_at ?_
  exact ⟨trivial, rfl, rfl⟩
theorem c_holds (w : WD) (X : XS) {k : Nat} (i n : Int) (h6 : 0 ≤ X.1 (3 + 2 * k) 3 ∧ X.1 (3 + 2 * k) 3 ≤ 60) : MS w M_Sh_holds [.inr (.inr (3, 3 + 2 * k)), .inl i, .inl n] X (fun z Y => Y = X ∧ z = if (0 ≤ i ∧ i ≤ X.1 (3 + 2 * k) 3) ∧ 0 ≤ n ∧ n ≤ X.1 (3 + 2 * k) 3 - i then 1 else 0) := by
  refine mk_Sh_holds rfl ?_
  refine sx_Sh_holds ?_
  refine ⟨trivial, _, c_isUpTo w X i (X.1 (3 + 2 * k) 3), fun z Y hq => ?_⟩
  obtain ⟨rfl, rfl⟩ := hq
  refine sx_Sh_holds ?_
  refine ⟨fun q => ?_, fun q => ?_⟩
  · refine sx_Sh_holds ?_
    exact ⟨Or.inl rfl, rfl, by rw [if_neg (fun z => nif q z.1)]⟩
  · have h1 := pif q
    have B := c_isUpTo w Y n (wr (Y.1 (3 + 2 * k) 3 - i))
    have e : wr (Y.1 (3 + 2 * k) 3 - i) = Y.1 (3 + 2 * k) 3 - i := wr_id (by omega) (by omega)
    refine ⟨trivial, _, B, fun z Y1 hq => ?_⟩
    obtain ⟨rfl, rfl⟩ := hq
    rw [e]
    refine sx_Sh_holds ?_
    refine ⟨fun q2 => ?_, fun q2 => ?_⟩
    · refine sx_Sh_holds ?_
      exact ⟨Or.inl rfl, rfl, by rw [if_neg (fun z => nif q2 z.2)]⟩
    · refine sx_Sh_holds ?_
      exact ⟨Or.inr rfl, rfl, by rw [if_pos ⟨h1, pif q2⟩]⟩
/-- the fault of n cells from i on, as lane b -/
def fof (X : XS) (k : Nat) (b i n : Int) : Int := if X.1 44 k = -9 then 1 else if X.1 44 k ≠ b then 2 else if n < 0 then 4 else if (0 ≤ i ∧ i ≤ X.1 45 k) ∧ n ≤ X.1 45 k - i then 0 else 3
