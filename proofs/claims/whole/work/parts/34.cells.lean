/-! ===== cells of a sheet ===== -/
theorem c_at (w : WD) {X : XS} {k i : Nat} (hk : k < 4) (hi : (i : Int) < X.1 (3 + 2 * k) 3) (h6 : X.1 (3 + 2 * k) 3 ≤ 60) : MS w M_Sh_at [.inr (.inr (3, 3 + 2 * k)), .inl (i : Int)] X (fun z Y => Y = X ∧ z = X.1 (3 + 2 * k + 1) i) := by
  have hl := len_sh hk
  refine mk_Sh_at rfl ?_
  refine sx_Sh_at ?_
  refine ⟨trivial, _, c_isBelow w X (i : Int) (X.1 (3 + 2 * k) 3), fun z Y hq => ?_⟩
  obtain ⟨rfl, rfl⟩ := hq
  refine sx_Sh_at ?_
  refine ⟨fun q => absurd (show 0 ≤ (i : Int) ∧ (i : Int) < Y.1 (3 + 2 * k) 3 by omega) (nif q), fun _ => ?_⟩
  refine ⟨(by omega), by show _ < ((ln 160 (3 + 2 * k + 1) : Nat) : Int); rw [hl]; omega, ?_⟩
  refine sx_Sh_at ?_
  exact ⟨trivial, rfl, rfl⟩
theorem c_holds (w : WD) (X : XS) {k : Nat} (i n : Int) (h6 : 0 ≤ X.1 (3 + 2 * k) 3 ∧ X.1 (3 + 2 * k) 3 ≤ 60) : MS w M_Sh_holds [.inr (.inr (3, 3 + 2 * k)), .inl i, .inl n] X (fun z Y => Y = X ∧ z = if (0 ≤ i ∧ i ≤ X.1 (3 + 2 * k) 3) ∧ 0 ≤ n ∧ n ≤ X.1 (3 + 2 * k) 3 - i then 1 else 0) := by
  refine mk_Sh_holds rfl ?_
  refine sx_Sh_holds ?_
  refine ⟨trivial, _, c_isUpTo w X i (X.1 (3 + 2 * k) 3), fun z Y hq => ?_⟩
  obtain ⟨rfl, rfl⟩ := hq
  refine sx_Sh_holds ?_
  refine ⟨fun q => ?_, fun q => ?_⟩
  · refine sx_Sh_holds ?_
    exact ⟨Or.inl rfl, rfl, by rw [if_neg (fun z => nif q z.1)]⟩
  · have h1 := pif q
    have B := c_isUpTo w Y n (wr (Y.1 (3 + 2 * k) 3 - i))
    have e : wr (Y.1 (3 + 2 * k) 3 - i) = Y.1 (3 + 2 * k) 3 - i := wr_id (by omega) (by omega)
    refine ⟨trivial, _, B, fun z Y1 hq => ?_⟩
    obtain ⟨rfl, rfl⟩ := hq
    rw [e]
    refine sx_Sh_holds ?_
    refine ⟨fun q2 => ?_, fun q2 => ?_⟩
    · refine sx_Sh_holds ?_
      exact ⟨Or.inl rfl, rfl, by rw [if_neg (fun z => nif q2 z.2)]⟩
    · refine sx_Sh_holds ?_
      exact ⟨Or.inr rfl, rfl, by rw [if_pos ⟨h1, pif q2⟩]⟩
/-- the fault of n cells from i on, as lane b -/
def fof (X : XS) (k : Nat) (b i n : Int) : Int := if X.1 44 k = -9 then 1 else if X.1 44 k ≠ b then 2 else if n < 0 then 4 else if (0 ≤ i ∧ i ≤ X.1 45 k) ∧ n ≤ X.1 45 k - i then 0 else 3
theorem c_foc (w : WD) {X Y : XS} (h : J X) {k : Nat} (hk : k < 4) (g : Y.1 (3 + 2 * k) = X.1 (3 + 2 * k)) (b i n : Int) : MS w M_Sh_faultOfCells [.inr (.inr (3, 3 + 2 * k)), .inl b, .inl i, .inl n] Y (fun z Z => Z = Y ∧ z = fof X k b i n) := by
  have hS := h.1 k hk
  unfold fof
  refine mk_Sh_faultOfCells rfl ?_
  have T17 : X.1 44 k = -9 ∨ X.1 44 k = b → Go w K_Sh_faultOfCells 17 [some (.inr (.inr (3, 3 + 2 * k))), some (.inl b), some (.inl i), some (.inl n)] [] Y (fun z Z => Z = Y ∧ z = if X.1 44 k = -9 then 1 else if X.1 44 k ≠ b then 2 else if n < 0 then 4 else if (0 ≤ i ∧ i ≤ X.1 45 k) ∧ n ≤ X.1 45 k - i then 0 else 3) := by
    intro hb
    refine sx_Sh_faultOfCells ?_
    refine ⟨fun q => ?_, fun q => ?_⟩
    · have q : Y.1 (3 + 2 * k) 1 ≠ 0 := q
      rw [g] at q
      have h9 : ¬ X.1 44 k = -9 := by omega
      obtain ⟨a1, a2, a3, a4, a5, a6, a7, -⟩ := hS.resolve_left (fun z => h9 z.2)
      rw [if_neg h9, if_neg (fun z => z (hb.resolve_left h9))]
      refine sx_Sh_faultOfCells ?_
      refine ⟨fun q2 => ?_, fun q2 => ?_⟩
      · have q2 : 0 ≤ n := q2
        rw [if_neg (show ¬ n < 0 by omega)]
        have B := c_holds w Y (k := k) i n (by rw [g, a5]; exact ⟨a6, a7⟩)
        rw [g, a5] at B
        refine sx_Sh_faultOfCells ?_
        refine ⟨trivial, _, B, fun z Y1 hq => ?_⟩
        obtain ⟨rfl, rfl⟩ := hq
        refine sx_Sh_faultOfCells ?_
        refine ⟨fun q3 => ?_, fun q3 => ?_⟩
        · rw [if_neg (fun z => nif q3 ⟨z.1, q2, z.2⟩)]
          refine sx_Sh_faultOfCells ?_
          exact ⟨trivial, rfl, rfl⟩
        · have p := pif q3
          rw [if_pos ⟨p.1, p.2.2⟩]
          refine sx_Sh_faultOfCells ?_
          exact ⟨trivial, rfl, rfl⟩
      · have q2 : n < 0 := q2
        rw [if_pos q2]
        exact ⟨trivial, rfl, rfl⟩
    · have q : Y.1 (3 + 2 * k) 1 = 0 := q
      rw [g] at q
      rw [if_pos (show X.1 44 k = -9 by omega)]
      exact ⟨trivial, rfl, rfl⟩
  refine sx_Sh_faultOfCells ?_
  refine ⟨fun q => ?_, fun q => ⟨fun q2 => ?_, fun q2 => ?_⟩⟩
  · have q : Y.1 (3 + 2 * k) 1 = 0 := q
    rw [g] at q
    exact T17 (Or.inl (by omega))
  · have q : Y.1 (3 + 2 * k) 1 ≠ 0 := q
    have q2 : Y.1 (3 + 2 * k) 2 = b := q2
    rw [g] at q q2
    exact T17 (Or.inr (by omega))
  · have q : Y.1 (3 + 2 * k) 1 ≠ 0 := q
    have q2 : Y.1 (3 + 2 * k) 2 ≠ b := q2
    rw [g] at q q2
    rw [if_neg (show ¬ X.1 44 k = -9 by omega), if_pos (show X.1 44 k ≠ b by omega)]
    exact ⟨trivial, rfl, rfl⟩
