/-! ===== put ===== -/
theorem PAIR.flt1 {w : WD} {c m : MI} {as : List V} {X : XS} {r t : Int} (hJ : J X) (hc : MS w c (.inr (.inr (6, 1)) :: as) X (fun z Y => SW 1 11 X Y t ∧ z = r)) (hm : ∀ Y, RM X Y → MS w m (.inr (.inr (7, 43)) :: as) Y (fun z Z => SW 43 0 Y Z t ∧ z = r)) : ∃ Q1 : Int → XS → Prop, MS w c (.inr (.inr (6, 1)) :: as) X Q1 ∧ ∀ z Y, Q1 z Y → ∃ Q2 : Int → XS → Prop, MS w m (.inr (.inr (7, 43)) :: as) Y Q2 ∧ ∀ z' Z, Q2 z' Z → z' = z ∧ J Z := by
  refine ⟨_, hc, fun z Y hq => ?_⟩
  obtain ⟨h1, h2⟩ := hq
  refine ⟨_, hm Y h1.rm, fun z' Z hq' => ?_⟩
  obtain ⟨h3, h4⟩ := hq'
  exact ⟨h4.trans h2.symm, hJ.tf (tf_fa hJ h1 h3)⟩
def nw (l v : Int) : Int := if l = 0 then nb v else if l = 1 then ns v else v
theorem c_write (w : WD) {X : XS} {k i : Nat} (hk : k < 4) (hi : (i : Int) < X.1 (3 + 2 * k) 3) (h6 : X.1 (3 + 2 * k) 3 ≤ 60) (v : Int) : MS w M_Sh_write [.inr (.inr (3, 3 + 2 * k)), .inl (i : Int), .inl v] X (fun _ Y => Y = (up X.1 (3 + 2 * k + 1) i (nw (X.1 (3 + 2 * k) 2) v), X.2)) := by
  have hl := len_sh hk
  refine mk_Sh_write rfl ?_
  refine sx_Sh_write ?_
  refine ⟨trivial, _, c_isBelow w X (i : Int) (X.1 (3 + 2 * k) 3), fun z Y hq => ?_⟩
  obtain ⟨rfl, rfl⟩ := hq
  refine sx_Sh_write ?_
  refine ⟨fun _ => ?_, fun q => absurd (show 0 ≤ (i : Int) ∧ (i : Int) < Y.1 (3 + 2 * k) 3 by omega) (nif q)⟩
  unfold nw
  refine sx_Sh_write ?_
  refine ⟨fun q => ?_, fun q => ?_⟩
  · have q : Y.1 (3 + 2 * k) 2 ≠ 0 := q
    rw [if_neg q]
    refine sx_Sh_write ?_
    refine ⟨fun q2 => ?_, fun q2 => ?_⟩
    · have q2 : Y.1 (3 + 2 * k) 2 ≠ 1 := q2
      rw [if_neg q2]
      refine sx_Sh_write ?_
      exact ⟨(by omega), by show _ < ((ln 160 (3 + 2 * k + 1) : Nat) : Int); rw [hl]; omega, rfl⟩
    · have q2 : Y.1 (3 + 2 * k) 2 = 1 := q2
      rw [if_pos q2]
      refine ⟨(by omega), by show _ < ((ln 160 (3 + 2 * k + 1) : Nat) : Int); rw [hl]; omega, ?_⟩
      refine sx_Sh_write ?_
      rfl
  · have q : Y.1 (3 + 2 * k) 2 = 0 := q
    rw [if_pos q]
    refine ⟨(by omega), by show _ < ((ln 160 (3 + 2 * k + 1) : Nat) : Int); rw [hl]; omega, ?_⟩
    refine sx_Sh_write ?_
    rfl
theorem mo_put1 (w : WD) {Y : XS} {k i : Nat} {l n : Int} (hk : k < 4) (h44 : Y.1 44 k = l) (hl : l ≠ -9) (h45 : Y.1 45 k = n) (hi : (i : Int) < n) (hn : n ≤ 60) (v : Int) : MS w M_Mo_put [.inr (.inr (7, 43)), .inl (k : Int), .inl (i : Int), .inl v] Y (fun z Z => Z = (up (up Y.1 43 0 0) 46 (60 * k + i) (nw l v), Y.2) ∧ z = 1) := by
  have r44 : up Y.1 43 0 0 44 k = l := by rw [up_ne (by omega)]; exact h44
  have r45 : up Y.1 43 0 0 45 k = n := by rw [up_ne (by omega)]; exact h45
  have e : wr (wr (60 * (k : Int)) + (i : Int)) = ((60 * k + i : Nat) : Int) := by rw [wr_id (z := 60 * (k : Int)) (by omega) (by omega), wr_id (by omega) (by omega)]; omega
  have B := mo_within w (up Y.1 43 0 0, Y.2) (i : Int) 0 (wr (up Y.1 43 0 0 45 k - 1))
  refine mk_Mo_put rfl ?_
  refine sx_Mo_put ?_
  refine ⟨trivial, _, mo_isSheet w _ (k : Int), fun z Z hq => ?_⟩
  obtain ⟨rfl, rfl⟩ := hq
  refine sx_Mo_put ?_
  refine ⟨fun _ => ?_, fun q => absurd (show 0 ≤ (k : Int) ∧ (k : Int) ≤ 3 by omega) (nif q)⟩
  refine sx_Mo_put ?_
  refine ⟨(by omega), by show _ < ((4 : Nat) : Int); omega, fun _ => ?_, fun q => absurd (r44.symm.trans q) hl⟩
  refine sx_Mo_put ?_
  refine ⟨(by omega), by show _ < ((4 : Nat) : Int); omega, trivial, _, B, fun z Z hq => ?_⟩
  obtain ⟨rfl, rfl⟩ := hq
  rw [r45, wr_id (by omega) (by omega)]
  refine sx_Mo_put ?_
  refine ⟨fun _ => ?_, fun q => absurd (show 0 ≤ (i : Int) ∧ (i : Int) ≤ n - 1 by omega) (nif q)⟩
  unfold nw
  refine sx_Mo_put ?_
  refine ⟨(by omega), by show _ < ((4 : Nat) : Int); omega, fun q => ?_, fun q => ?_⟩
  · have q : up Y.1 43 0 0 44 k ≠ 0 := q
    rw [r44] at q
    rw [if_neg q]
    refine sx_Mo_put ?_
    refine ⟨(by omega), by show _ < ((4 : Nat) : Int); omega, fun q2 => ?_, fun q2 => ?_⟩
    · have q2 : up Y.1 43 0 0 44 k ≠ 1 := q2
      rw [r44] at q2
      rw [if_neg q2]
      refine sx_Mo_put ?_
      refine ⟨by rw [e]; omega, by rw [e]; show _ < ((240 : Nat) : Int); omega, trivial, ?_, rfl⟩
      rw [e]
      rfl
    · have q2 : up Y.1 43 0 0 44 k = 1 := q2
      rw [r44] at q2
      rw [if_pos q2]
      refine sx_Mo_put ?_
      refine ⟨by rw [e]; omega, by rw [e]; show _ < ((240 : Nat) : Int); omega, trivial, ?_, rfl⟩
      rw [e]
      rfl
  · have q : up Y.1 43 0 0 44 k = 0 := q
    rw [r44] at q
    rw [if_pos q]
    refine sx_Mo_put ?_
    refine ⟨by rw [e]; omega, by rw [e]; show _ < ((240 : Nat) : Int); omega, trivial, ?_, rfl⟩
    rw [e]
    rfl
theorem p_put (w : WD) (a b v : Int) : PAIR w M_Tf_put M_Mo_put [.inl a, .inl b, .inl v] := by
  by_cases h1 : 0 ≤ a ∧ a < 4
  · obtain ⟨k, rfl⟩ := Int.eq_ofNat_of_zero_le h1.1
    have hk : k < 4 := by omega
    intro X h
    have hS := h.1 k hk
    have c1 : up X.1 1 11 0 (3 + 2 * k) = X.1 (3 + 2 * k) := up_ne (by omega)
    by_cases hl : X.1 44 k = -9
    · refine PAIR.flt1 (r := -11) (t := 1) h ?_ (fun Y g => ?_)
      · have S0 := SW.one 1 11 X 0
        refine mk_Tf_put rfl ?_
        refine sx_Tf_put ?_
        refine ⟨trivial, _, c_isBelow w _ (k : Int) 4, fun z Y hq => ?_⟩
        obtain ⟨rfl, rfl⟩ := hq
        refine sx_Tf_put ?_
        refine ⟨fun _ => ?_, fun q => absurd h1 (nif q)⟩
        refine sx_Tf_put ?_
        refine ⟨(by omega), (by omega), fun q => ?_, fun _ => ?_⟩
        · have q : up X.1 1 11 0 (3 + 2 * k) 1 ≠ 0 := q
          rw [c1] at q
          omega
        · refine ⟨trivial, _, c_faulted w _ 1, fun z Y hq => ?_⟩
          obtain ⟨rfl, rfl⟩ := hq
          refine sx_Tf_put ?_
          exact ⟨trivial, S0.tr (SW.one 1 11 _ 1), by decide⟩
      · have S0 := SW.one 43 0 Y 0
        have r44 : up Y.1 43 0 0 44 k = -9 := by rw [up_ne (by omega), g 44 (by omega)]; exact hl
        refine mk_Mo_put rfl ?_
        refine sx_Mo_put ?_
        refine ⟨trivial, _, mo_isSheet w _ (k : Int), fun z Z hq => ?_⟩
        obtain ⟨rfl, rfl⟩ := hq
        refine sx_Mo_put ?_
        refine ⟨fun _ => ?_, fun q => absurd (show 0 ≤ (k : Int) ∧ (k : Int) ≤ 3 by omega) (nif q)⟩
        refine sx_Mo_put ?_
        refine ⟨(by omega), by show _ < ((4 : Nat) : Int); omega, fun q => absurd r44 q, fun _ => ?_⟩
        refine ⟨trivial, _, mo_fails w _ 1, fun z Z hq => ?_⟩
        obtain ⟨rfl, rfl⟩ := hq
        refine sx_Mo_put ?_
        exact ⟨trivial, S0.tr (SW.one 43 0 _ 1), by decide⟩
    · obtain ⟨a1, a2, a3, a4, a5, a6, a7, a8⟩ := hS.resolve_left (fun z => hl z.2)
      have d1 : up X.1 1 11 0 (3 + 2 * k) 1 = 1 := by rw [c1]; exact a1
      have d3 : up X.1 1 11 0 (3 + 2 * k) 3 = X.1 45 k := by rw [c1]; exact a5
      by_cases hi : 0 ≤ b ∧ b < X.1 45 k
      · obtain ⟨i, rfl⟩ := Int.eq_ofNat_of_zero_le hi.1
        have d2 : up X.1 1 11 0 (3 + 2 * k) 2 = X.1 44 k := by rw [c1]; exact a4
        refine PAIR.set (r := 1) (Y1 := (up (up X.1 1 11 0) (3 + 2 * k + 1) i (nw (X.1 44 k) v), X.2)) (Z1 := (up (up (up (up X.1 1 11 0) (3 + 2 * k + 1) i (nw (X.1 44 k) v)) 43 0 0) 46 (60 * k + i) (nw (X.1 44 k) v), X.2)) ?_ ?_ ?_
        · have B := c_isBelow w (up X.1 1 11 0, X.2) (i : Int) (up X.1 1 11 0 (3 + 2 * k) 3)
          have C := c_write w (X := (up X.1 1 11 0, X.2)) (k := k) (i := i) hk (by show (i : Int) < up X.1 1 11 0 (3 + 2 * k) 3; rw [d3]; exact hi.2) (by show up X.1 1 11 0 (3 + 2 * k) 3 ≤ 60; rw [d3]; exact a7) v
          rw [show (up X.1 1 11 0, X.2).1 (3 + 2 * k) 2 = X.1 44 k from d2] at C
          refine mk_Tf_put rfl ?_
          refine sx_Tf_put ?_
          refine ⟨trivial, _, c_isBelow w _ (k : Int) 4, fun z Y hq => ?_⟩
          obtain ⟨rfl, rfl⟩ := hq
          refine sx_Tf_put ?_
          refine ⟨fun _ => ?_, fun q => absurd h1 (nif q)⟩
          refine sx_Tf_put ?_
          refine ⟨(by omega), (by omega), fun _ => ?_, fun q => ?_⟩
          · refine sx_Tf_put ?_
            refine ⟨(by omega), (by omega), trivial, _, B, fun z Y hq => ?_⟩
            obtain ⟨rfl, rfl⟩ := hq
            rw [d3]
            refine sx_Tf_put ?_
            refine ⟨fun _ => ?_, fun q => absurd hi (nif q)⟩
            refine sx_Tf_put ?_
            refine ⟨(by omega), (by omega), trivial, _, C, fun z Y hq => ?_⟩
            subst hq
            refine sx_Tf_put ?_
            exact ⟨trivial, rfl, rfl⟩
          · have q : up X.1 1 11 0 (3 + 2 * k) 1 = 0 := q
            omega
        · have r : ∀ j, 44 ≤ j → up (up X.1 1 11 0) (3 + 2 * k + 1) i (nw (X.1 44 k) v) j = X.1 j := fun j hj => by rw [up_ne (by omega), up_ne (by omega)]
          exact mo_put1 w (Y := (up (up X.1 1 11 0) (3 + 2 * k + 1) i (nw (X.1 44 k) v), X.2)) hk (by show up (up X.1 1 11 0) (3 + 2 * k + 1) i (nw (X.1 44 k) v) 44 k = _; rw [r 44 (by omega)]) hl (by show up (up X.1 1 11 0) (3 + 2 * k + 1) i (nw (X.1 44 k) v) 45 k = _; rw [r 45 (by omega)]) hi.2 a7 v
        · have R : ∀ j, j ≠ 1 → j ≠ 3 + 2 * k + 1 → j ≠ 43 → j ≠ 46 → up (up (up (up X.1 1 11 0) (3 + 2 * k + 1) i (nw (X.1 44 k) v)) 43 0 0) 46 (60 * k + i) (nw (X.1 44 k) v) j = X.1 j := fun j p1 p2 p3 p4 => by rw [up_ne p4, up_ne p3, up_ne p2, up_ne p1]
          have r1 : up (up (up (up X.1 1 11 0) (3 + 2 * k + 1) i (nw (X.1 44 k) v)) 43 0 0) 46 (60 * k + i) (nw (X.1 44 k) v) 1 = u1 (X.1 1) 11 0 := by rw [up_ne (by omega), up_ne (by omega), up_ne (by omega), up_row]
          have r43 : up (up (up (up X.1 1 11 0) (3 + 2 * k + 1) i (nw (X.1 44 k) v)) 43 0 0) 46 (60 * k + i) (nw (X.1 44 k) v) 43 = u1 (X.1 43) 0 0 := by rw [up_ne (by omega), up_row, up_ne (by omega), up_ne (by omega)]
          have r46 : up (up (up (up X.1 1 11 0) (3 + 2 * k + 1) i (nw (X.1 44 k) v)) 43 0 0) 46 (60 * k + i) (nw (X.1 44 k) v) 46 = u1 (X.1 46) (60 * k + i) (nw (X.1 44 k) v) := by rw [up_row, up_ne (by omega), up_ne (by omega), up_ne (by omega)]
          have rc : up (up (up (up X.1 1 11 0) (3 + 2 * k + 1) i (nw (X.1 44 k) v)) 43 0 0) 46 (60 * k + i) (nw (X.1 44 k) v) (3 + 2 * k + 1) = u1 (X.1 (3 + 2 * k + 1)) i (nw (X.1 44 k) v) := by rw [up_ne (by omega), up_ne (by omega), up_row, up_ne (by omega)]
          generalize up (up (up (up X.1 1 11 0) (3 + 2 * k + 1) i (nw (X.1 44 k) v)) 43 0 0) 46 (60 * k + i) (nw (X.1 44 k) v) = W at R r1 r43 r46 rc ⊢
          refine h.sh (fun j hj => R j (by omega) (by omega) (by omega) (by omega)) rfl (fun j hj => by show W 1 j = _; rw [r1, u1_n (by omega)]) (fun j hj => by show W 43 j = _; rw [r43, u1_n (by omega)]) (by show W 1 10 = W 43 1; rw [r1, r43, u1_n (by decide), u1_n (by decide)]; exact h.2.2.2.2.2.2.2.2.1) (by show W 1 11 = W 43 0; rw [r1, r43, u1_s, u1_s]) (fun q hq => ?_)
          show (W (3 + 2 * q) 1 = 0 ∧ W 44 q = -9) ∨ (W (3 + 2 * q) 1 = 1 ∧ 0 ≤ W 44 q ∧ W 44 q ≤ 2 ∧ W (3 + 2 * q) 2 = W 44 q ∧ W (3 + 2 * q) 3 = W 45 q ∧ 0 ≤ W 45 q ∧ W 45 q ≤ 60 ∧ ∀ s, s < (W 45 q).toNat → W (3 + 2 * q + 1) s = W 46 (60 * q + s))
          rw [R (3 + 2 * q) (by omega) (show 3 + 2 * q ≠ 3 + 2 * k + 1 by omega) (by omega) (by omega), R 44 (by omega) (by omega) (by omega) (by omega), R 45 (by omega) (by omega) (by omega) (by omega), r46]
          by_cases e : q = k
          · subst e
            refine Or.inr ⟨a1, a2, a3, a4, a5, a6, a7, fun s hs => ?_⟩
            rw [rc]
            by_cases e : s = i
            · subst e; rw [u1_s, u1_s]
            · rw [u1_n e, u1_n (show 60 * q + s ≠ 60 * q + i by omega)]; exact a8 s hs
          · rcases h.1 q hq with g | ⟨g1, g2, g3, g4, g5, g6, g7, g8⟩
            · exact Or.inl g
            · refine Or.inr ⟨g1, g2, g3, g4, g5, g6, g7, fun s hs => ?_⟩
              rw [R (3 + 2 * q + 1) (by omega) (show 3 + 2 * q + 1 ≠ 3 + 2 * k + 1 by omega) (by omega) (by omega), u1_n (show 60 * q + s ≠ 60 * k + i by omega)]
              exact g8 s hs
      · refine PAIR.flt1 (r := -13) (t := 3) h ?_ (fun Y g => ?_)
        · have S0 := SW.one 1 11 X 0
          have B := c_isBelow w (up X.1 1 11 0, X.2) b (up X.1 1 11 0 (3 + 2 * k) 3)
          refine mk_Tf_put rfl ?_
          refine sx_Tf_put ?_
          refine ⟨trivial, _, c_isBelow w _ (k : Int) 4, fun z Y hq => ?_⟩
          obtain ⟨rfl, rfl⟩ := hq
          refine sx_Tf_put ?_
          refine ⟨fun _ => ?_, fun q => absurd h1 (nif q)⟩
          refine sx_Tf_put ?_
          refine ⟨(by omega), (by omega), fun _ => ?_, fun q => ?_⟩
          · refine sx_Tf_put ?_
            refine ⟨(by omega), (by omega), trivial, _, B, fun z Y hq => ?_⟩
            obtain ⟨rfl, rfl⟩ := hq
            rw [d3]
            refine sx_Tf_put ?_
            refine ⟨fun q => absurd (pif q) hi, fun _ => ?_⟩
            refine ⟨trivial, _, c_faulted w _ 3, fun z Y hq => ?_⟩
            obtain ⟨rfl, rfl⟩ := hq
            refine sx_Tf_put ?_
            exact ⟨trivial, S0.tr (SW.one 1 11 _ 3), by decide⟩
          · have q : up X.1 1 11 0 (3 + 2 * k) 1 = 0 := q
            omega
        · have S0 := SW.one 43 0 Y 0
          have r44 : up Y.1 43 0 0 44 k = X.1 44 k := by rw [up_ne (by omega), g 44 (by omega)]
          have r45 : up Y.1 43 0 0 45 k = X.1 45 k := by rw [up_ne (by omega), g 45 (by omega)]
          refine mk_Mo_put rfl ?_
          refine sx_Mo_put ?_
          refine ⟨trivial, _, mo_isSheet w _ (k : Int), fun z Z hq => ?_⟩
          obtain ⟨rfl, rfl⟩ := hq
          refine sx_Mo_put ?_
          refine ⟨fun _ => ?_, fun q => absurd (show 0 ≤ (k : Int) ∧ (k : Int) ≤ 3 by omega) (nif q)⟩
          refine sx_Mo_put ?_
          refine ⟨(by omega), by show _ < ((4 : Nat) : Int); omega, fun _ => ?_, fun q => absurd (r44.symm.trans q) hl⟩
          have B := mo_within w (up Y.1 43 0 0, Y.2) b 0 (wr (up Y.1 43 0 0 45 k - 1))
          refine sx_Mo_put ?_
          refine ⟨(by omega), by show _ < ((4 : Nat) : Int); omega, trivial, _, B, fun z Z hq => ?_⟩
          obtain ⟨rfl, rfl⟩ := hq
          rw [r45, wr_id (by omega) (by omega)]
          refine sx_Mo_put ?_
          refine ⟨fun q => absurd (pif q) (fun z => hi (by omega)), fun _ => ?_⟩
          refine ⟨trivial, _, mo_fails w _ 3, fun z Z hq => ?_⟩
          obtain ⟨rfl, rfl⟩ := hq
          refine sx_Mo_put ?_
          exact ⟨trivial, S0.tr (SW.one 43 0 _ 3), by decide⟩
  · refine PAIR.flt (fun _ => -1) (fun _ => 0) (fun X h => ?_) (fun X Y h g => ?_)
    · have S0 := SW.one 1 11 X 0
      refine mk_Tf_put rfl ?_
      refine sx_Tf_put ?_
      refine ⟨trivial, _, c_isBelow w _ a 4, fun z Y hq => ?_⟩
      obtain ⟨rfl, rfl⟩ := hq
      refine sx_Tf_put ?_
      exact ⟨fun q => absurd (pif q) h1, fun q => ⟨trivial, S0, rfl⟩⟩
    · have S0 := SW.one 43 0 Y 0
      refine mk_Mo_put rfl ?_
      refine sx_Mo_put ?_
      refine ⟨trivial, _, mo_isSheet w _ a, fun z Z hq => ?_⟩
      obtain ⟨rfl, rfl⟩ := hq
      refine sx_Mo_put ?_
      exact ⟨fun q => absurd (pif q) (fun z => h1 (by omega)), fun q => ⟨trivial, S0, rfl⟩⟩
