/-! ===== cells taken as a row: what is wrong with them ===== -/
def wf (X : XS) (a b i n : Int) : Int := if (0 ≤ a ∧ a < 4) ∧ 0 ≤ b ∧ b < 3 then fof X a.toNat b i n else 0
def wz (X : XS) (a b i n : Int) : Int := if 0 ≤ a ∧ a < 4 then (if 0 ≤ b ∧ b < 3 then (if fof X a.toNat b i n = 0 then 0 else -10 - fof X a.toNat b i n) else -2) else -1
theorem fof_rng (X : XS) (k : Nat) (b i n : Int) : 0 ≤ fof X k b i n ∧ fof X k b i n ≤ 4 := by
  unfold fof
  by_cases h1 : X.1 44 k = -9
  · rw [if_pos h1]; omega
  · rw [if_neg h1]
    by_cases h2 : X.1 44 k ≠ b
    · rw [if_pos h2]; omega
    · rw [if_neg h2]
      by_cases h3 : n < 0
      · rw [if_pos h3]; omega
      · rw [if_neg h3]
        by_cases h4 : (0 ≤ i ∧ i ≤ X.1 45 k) ∧ n ≤ X.1 45 k - i
        · rw [if_pos h4]; omega
        · rw [if_neg h4]; omega
theorem fof_0 {X : XS} {k : Nat} {b i n : Int} (h : fof X k b i n = 0) : (¬ X.1 44 k = -9 ∧ X.1 44 k = b) ∧ 0 ≤ n ∧ (0 ≤ i ∧ i ≤ X.1 45 k) ∧ n ≤ X.1 45 k - i := by
  unfold fof at h
  by_cases h1 : X.1 44 k = -9
  · rw [if_pos h1] at h; cases h
  · rw [if_neg h1] at h
    by_cases h2 : X.1 44 k ≠ b
    · rw [if_pos h2] at h; cases h
    · rw [if_neg h2] at h
      by_cases h3 : n < 0
      · rw [if_pos h3] at h; cases h
      · rw [if_neg h3] at h
        by_cases h4 : (0 ≤ i ∧ i ≤ X.1 45 k) ∧ n ≤ X.1 45 k - i
        · exact ⟨⟨h1, Decidable.not_not.mp h2⟩, by omega, h4.1, h4.2⟩
        · rw [if_neg h4] at h; cases h
theorem c_wc (w : WD) {X : XS} (h : J X) (a b i n : Int) : MS w M_Tf_wrongCells [.inr (.inr (6, 1)), .inl a, .inl b, .inl i, .inl n] X (fun z Y => Y = (up (up X.1 1 11 0) 1 11 (wf X a b i n), X.2) ∧ z = wz X a b i n) := by
  have uu : ∀ z : Int, up (up X.1 1 11 0) 1 11 z = up X.1 1 11 z := by
    intro z
    funext j
    by_cases e : j = 1
    · subst e
      rw [up_row, up_row, up_row]
      funext q
      by_cases e : q = 11
      · subst e; rw [u1_s, u1_s]
      · rw [u1_n e, u1_n e, u1_n e]
    · rw [up_ne e, up_ne e, up_ne e]
  have c1 : ∀ k, k < 4 → up X.1 1 11 0 (3 + 2 * k) = X.1 (3 + 2 * k) := fun k _ => up_ne (by omega)
  rw [uu]
  unfold wf wz
  refine mk_Tf_wrongCells rfl ?_
  refine sx_Tf_wrongCells ?_
  refine ⟨trivial, _, c_isBelow w _ a 4, fun z Y hq => ?_⟩
  obtain ⟨rfl, rfl⟩ := hq
  refine sx_Tf_wrongCells ?_
  refine ⟨fun q => ?_, fun q => ⟨trivial, by rw [if_neg (fun z => nif q z.1)], by rw [if_neg (nif q)]⟩⟩
  have ha := pif q
  obtain ⟨k, rfl⟩ := Int.eq_ofNat_of_zero_le ha.1
  have hk : k < 4 := by omega
  rw [if_pos ha]
  refine sx_Tf_wrongCells ?_
  refine ⟨trivial, _, c_isBelow w _ b 3, fun z Y hq => ?_⟩
  obtain ⟨rfl, rfl⟩ := hq
  refine sx_Tf_wrongCells ?_
  refine ⟨fun q => ?_, fun q => ⟨trivial, by rw [if_neg (fun z => nif q z.2)], by rw [if_neg (nif q)]⟩⟩
  have hb := pif q
  rw [if_pos hb, if_pos ⟨ha, hb⟩, Int.toNat_natCast]
  have hf := fof_rng X k b i n
  have A := c_foc w h hk (Y := (up X.1 1 11 0, X.2)) (c1 k hk) b i n
  refine sx_Tf_wrongCells ?_
  refine ⟨(by omega), (by omega), trivial, _, A, fun z Z hq => ?_⟩
  obtain ⟨rfl, rfl⟩ := hq
  refine sx_Tf_wrongCells ?_
  refine ⟨fun q => ?_, fun q => ?_⟩
  · have q : fof X k b i n ≠ 0 := q
    rw [if_neg q]
    refine sx_Tf_wrongCells ?_
    refine ⟨trivial, _, c_faulted w _ (fof X k b i n), fun z Y hq => ?_⟩
    obtain ⟨rfl, rfl⟩ := hq
    rw [wr_id (by omega) (by omega)]
    refine sx_Tf_wrongCells ?_
    exact ⟨trivial, by rw [uu], rfl⟩
  · have q : fof X k b i n = 0 := q
    rw [if_pos q]
    refine sx_Tf_wrongCells ?_
    exact ⟨trivial, by rw [q], rfl⟩
theorem mo_against (w : WD) {X Y : XS} (h : J X) (r44 : Y.1 44 = X.1 44) (r45 : Y.1 45 = X.1 45) {k : Nat} (hk : k < 4) (b i n : Int) : MS w M_Mo_against [.inr (.inr (7, 43)), .inl (k : Int), .inl b, .inl i, .inl n] Y (fun z Z => Z = Y ∧ z = fof X k b i n) := by
  have hS := h.1 k hk
  unfold fof
  refine mk_Mo_against rfl ?_
  have T23 : X.1 44 k = -9 ∨ X.1 44 k = b → Go w K_Mo_against 23 [some (.inr (.inr (7, 43))), some (.inl (k : Int)), some (.inl b), some (.inl i), some (.inl n)] [] Y (fun z Z => Z = Y ∧ z = if X.1 44 k = -9 then 1 else if X.1 44 k ≠ b then 2 else if n < 0 then 4 else if (0 ≤ i ∧ i ≤ X.1 45 k) ∧ n ≤ X.1 45 k - i then 0 else 3) := by
    intro hb
    refine sx_Mo_against ?_
    refine ⟨(by omega), (by show _ < ((4 : Nat) : Int); omega), fun q => ?_, fun q => ?_⟩
    · have q : Y.1 44 k ≠ -9 := q
      rw [r44] at q
      obtain ⟨a1, a2, a3, a4, a5, a6, a7, -⟩ := hS.resolve_left (fun z => q z.2)
      rw [if_neg q, if_neg (fun z => z (hb.resolve_left q))]
      refine sx_Mo_against ?_
      refine ⟨fun q2 => ?_, fun q2 => ?_⟩
      · have q2 : 0 ≤ n := q2
        rw [if_neg (show ¬ n < 0 by omega)]
        have T70 : ¬ ((0 ≤ i ∧ i ≤ X.1 45 k) ∧ n ≤ X.1 45 k - i) → Go w K_Mo_against 70 [some (.inr (.inr (7, 43))), some (.inl (k : Int)), some (.inl b), some (.inl i), some (.inl n)] [] Y (fun z Z => Z = Y ∧ z = if (0 ≤ i ∧ i ≤ X.1 45 k) ∧ n ≤ X.1 45 k - i then 0 else 3) := by
          intro hN
          rw [if_neg hN]
          refine sx_Mo_against ?_
          refine sx_Mo_against ?_
          exact ⟨trivial, rfl, rfl⟩
        refine sx_Mo_against ?_
        refine ⟨fun q3 => ?_, fun q3 => ?_⟩
        · have q3 : i < 0 := q3
          exact T70 (by omega)
        have q3 : 0 ≤ i := q3
        refine ⟨(by omega), (by show _ < ((4 : Nat) : Int); omega), fun q4 => ?_, fun q4 => ?_⟩
        · have q4 : Y.1 45 k < i := q4
          rw [r45] at q4
          exact T70 (by omega)
        have q4 : i ≤ Y.1 45 k := q4
        rw [r45] at q4
        have e : True → wr (Y.1 45 k - i) = X.1 45 k - i := fun _ => by rw [r45, wr_id (by omega) (by omega)]
        refine ⟨(by omega), (by show _ < ((4 : Nat) : Int); omega), fun q5 => ?_, fun q5 => ?_⟩
        · have q5 : n ≤ wr (Y.1 45 k - i) := q5
          rw [e trivial] at q5
          rw [if_pos ⟨⟨q3, q4⟩, q5⟩]
          refine sx_Mo_against ?_
          exact ⟨trivial, rfl, rfl⟩
        · have q5 : wr (Y.1 45 k - i) < n := q5
          rw [e trivial] at q5
          rw [if_neg (show ¬ ((0 ≤ i ∧ i ≤ X.1 45 k) ∧ n ≤ X.1 45 k - i) by omega)]
          refine sx_Mo_against ?_
          exact ⟨trivial, rfl, rfl⟩
      · have q2 : n < 0 := q2
        rw [if_pos q2]
        exact ⟨trivial, rfl, rfl⟩
    · have q : Y.1 44 k = -9 := q
      rw [r44] at q
      rw [if_pos q]
      exact ⟨trivial, rfl, rfl⟩
  refine sx_Mo_against ?_
  refine ⟨(by omega), (by show _ < ((4 : Nat) : Int); omega), fun q => T23 (Or.inl (by rw [← r44]; exact q)), fun q => ?_⟩
  have q : Y.1 44 k ≠ -9 := q
  rw [r44] at q
  refine ⟨(by omega), (by show _ < ((4 : Nat) : Int); omega), fun q2 => T23 (Or.inr (by rw [← r44]; exact q2)), fun q2 => ?_⟩
  have q2 : Y.1 44 k ≠ b := q2
  rw [r44] at q2
  rw [if_neg q, if_pos q2]
  exact ⟨trivial, rfl, rfl⟩
theorem mo_rowF (w : WD) {X Y : XS} (h : J X) (g : RM X Y) {a b i n : Int} (hw : wz X a b i n ≠ 0) : MS w M_Mo_row [.inr (.inr (7, 43)), .inl a, .inl b, .inl i, .inl n] Y (fun z Z => SW 43 0 Y Z (wf X a b i n) ∧ z = wz X a b i n) := by
  have S0 := SW.one 43 0 Y 0
  unfold wz at hw
  unfold wf wz
  refine mk_Mo_row rfl ?_
  refine sx_Mo_row ?_
  refine ⟨trivial, _, mo_isSheet w _ a, fun z Z hq => ?_⟩
  obtain ⟨rfl, rfl⟩ := hq
  refine sx_Mo_row ?_
  refine ⟨fun q => ?_, fun q => ⟨trivial, by rw [if_neg (fun z => nif q (by omega))]; exact S0, by rw [if_neg (fun z => nif q (by omega))]⟩⟩
  have ha : 0 ≤ a ∧ a < 4 := by have := pif q; omega
  obtain ⟨k, rfl⟩ := Int.eq_ofNat_of_zero_le ha.1
  have hk : k < 4 := by omega
  rw [if_pos ha] at hw ⊢
  refine sx_Mo_row ?_
  refine ⟨trivial, _, mo_isSort w _ b, fun z Y hq => ?_⟩
  obtain ⟨rfl, rfl⟩ := hq
  refine sx_Mo_row ?_
  refine ⟨fun q => ?_, fun q => ⟨trivial, by rw [if_neg (fun z => nif q (by omega))]; exact S0, by rw [if_neg (fun z => nif q (by omega))]⟩⟩
  have hb : 0 ≤ b ∧ b < 3 := by have := pif q; omega
  rw [if_pos hb] at hw ⊢
  rw [if_pos ⟨ha, hb⟩]
  rw [Int.toNat_natCast] at hw ⊢
  have hf := fof_rng X k b i n
  have hne : fof X k b i n ≠ 0 := fun z => hw (by rw [if_pos z])
  rw [if_neg hne]
  have A := mo_against w (Y := (up Y.1 43 0 0, Y.2)) h (by show up Y.1 43 0 0 44 = _; rw [up_ne (by omega), g 44 (by omega)]) (by show up Y.1 43 0 0 45 = _; rw [up_ne (by omega), g 45 (by omega)]) hk b i n
  refine sx_Mo_row ?_
  refine ⟨trivial, _, A, fun z Z hq => ?_⟩
  obtain ⟨rfl, rfl⟩ := hq
  refine sx_Mo_row ?_
  refine ⟨fun q => absurd q hne, fun _ => ?_⟩
  refine ⟨trivial, _, mo_fails w _ (fof X k b i n), fun z Z hq => ?_⟩
  obtain ⟨rfl, rfl⟩ := hq
  rw [wr_id (by omega) (by omega)]
  refine sx_Mo_row ?_
  exact ⟨trivial, S0.tr (SW.one 43 0 _ _), rfl⟩
