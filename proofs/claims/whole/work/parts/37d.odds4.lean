theorem c_odds1 (w : WD) {X : XS} (h : J X) {m : Nat} (hm : (m : Int) < X.1 43 7) {b : Int} (hb : 0 ≤ b ∧ b < 2) : MS w M_Tf_odds [.inr (.inr (6, 1)), .inl (m : Int), .inl b] X (fun z Y => CS X Y ∧ z = if b = 0 then ((hf X m).1 : Int) else ((hf X m).2 : Int)) := by
  have hn := h.n
  have hns := h.ns
  have hp := p2s (nS X) (by omega)
  have t2 := h.2.2.2.2.1.2.1
  have A := c_has w X (X.2 0) (m : Int)
  rw [h.2.2.1.2.1] at A
  refine mk_Tf_odds rfl ?_
  refine sx_Tf_odds ?_
  refine ⟨h.b0, trivial, _, A, fun z Y hq => ?_⟩
  obtain ⟨rfl, rfl⟩ := hq
  refine sx_Tf_odds ?_
  refine ⟨fun q => absurd (show 0 ≤ (m : Int) ∧ (m : Int) < Y.1 43 7 by omega) (nif q), fun _ => ?_⟩
  refine ⟨trivial, _, c_isBelow w Y b 2, fun z Y1 hq => ?_⟩
  obtain ⟨rfl, rfl⟩ := hq
  refine sx_Tf_odds ?_
  refine ⟨fun _ => ?_, fun q => absurd hb (nif q)⟩
  refine tx_Tf_odds 10 ?_
  refine ⟨(by omega), (by omega), ?_⟩
  have e1 : wr (1 * 2 ^ (Y1.1 17 2).toNat) = ((2 ^ nS Y1 : Nat) : Int) := by rw [t2]; exact (p2k' (nS Y1) (by omega)).1
  rw [e1]
  clear e1
  have L : ∀ j : Nat, j ≤ 2 ^ nS Y1 → ∀ (c s : Int) (Z : XS), c = (j : Int) → s = ((cnt (fun t => od Y1 m (2 ^ nS Y1 - (t + 1))) j : Nat) : Int) → CS Y1 Z → Go w K_Tf_odds 39 [some (.inr (.inr (6, 1))), some (.inl (m : Int)), some (.inl b), some (.inl s), some (.inl ((2 ^ nS Y1 : Nat) : Int)), some (.inl c)] [] Z (fun z Y => CS Y1 Y ∧ z = if b = 0 then ((hf Y1 m).1 : Int) else ((hf Y1 m).2 : Int)) := by
    refine lp ?_
    intro j hj ih c s Z hc hs hC
    subst hc
    subst hs
    have hcl := cnt_le (p := fun t => od Y1 m (2 ^ nS Y1 - (t + 1))) (fun t => od_le Y1 m (2 ^ nS Y1 - (t + 1))) j
    have h17 : Z.1 17 2 = (nS Y1 : Int) := by rw [hC.1 17 (by omega), t2]; exact hns.1
    have e2 : True → wr (1 * 2 ^ (Z.1 17 2).toNat) = ((2 ^ nS Y1 : Nat) : Int) := fun _ => by rw [h17, Int.toNat_natCast]; exact (p2k' (nS Y1) (by omega)).1
    refine sx_Tf_odds ?_
    refine ⟨(by omega), (by omega), fun q => ?_, fun q => ?_⟩
    · have q : wr (1 * 2 ^ (Z.1 17 2).toNat) ≤ (j : Int) := q
      rw [e2 trivial] at q
      have e : j = 2 ^ nS Y1 := by omega
      clear q e2
      refine tx_Tf_odds 2 ?_
      refine c_halve w h hC 0 (Nat.zero_le _) 0 (cnt (fun t => od Y1 m (2 ^ nS Y1 - (t + 1))) j) (2 ^ nS Y1) (hf Y1 m) rfl (by omega) (by omega) ?_
      unfold hf
      rw [e, cnt_rev1 (od Y1 m) (2 ^ nS Y1), Nat.sub_zero]
    · have q : (j : Int) < wr (1 * 2 ^ (Z.1 17 2).toNat) := q
      rw [e2 trivial] at q
      have hjn : j < 2 ^ nS Y1 := by omega
      clear q e2
      refine ⟨trivial, _, c_lwss w h hC hjn, fun z Z1 hq => ?_⟩
      obtain ⟨g1, rfl⟩ := hq
      refine sx_Tf_odds ?_
      refine ⟨trivial, _, c_isIn w Z1 (k := m) (bs512 (by omega)) (by omega), fun z Z2 hq => ?_⟩
      obtain ⟨rfl, rfl⟩ := hq
      refine sx_Tf_odds ?_
      refine ⟨fun q => ?_, fun q => ?_⟩
      · have t := nif q
        refine sx_Tf_odds ?_
        refine ih hjn _ _ _ (w1 rfl (by omega)) ?_ g1
        rw [cnt_s, show od Y1 m (2 ^ nS Y1 - (j + 1)) = 0 from if_neg t]
        rfl
      · have t := pif q
        refine ih hjn _ _ _ (w1 rfl (by omega)) ?_ g1
        rw [cnt_s, show od Y1 m (2 ^ nS Y1 - (j + 1)) = 1 from if_pos t, wr_id (by omega) (by omega)]
        rfl
  exact L 0 (Nat.zero_le _) 0 0 Y1 rfl rfl (CS.rf Y1)
theorem rm_hf {X Y : XS} (h : RM X Y) (m : Nat) : hf Y m = hf X m := by
  have e : nS Y = nS X := by unfold nS; rw [h 43 (by omega)]
  have e2 : od Y m = od X m := by
    funext u
    unfold od
    rw [h.rt, h 53 (by omega), h 54 (by omega), e]
    unfold nM
    rw [h 43 (by omega)]
  unfold hf
  rw [e, e2]
theorem p_odds (w : WD) (a b : Int) : PAIR w M_Tf_odds M_Mo_odds [.inl a, .inl b] := by
  refine PAIR.ask (a_odds a b) (fun X Y h => ?_) (fun X h => ?_) (fun X h => ?_)
  · unfold a_odds
    rw [rm_hf h, h 43 (by omega)]
  · unfold a_odds
    by_cases h1 : (0 ≤ a ∧ a < X.1 43 7) ∧ 0 ≤ b ∧ b < 2
    · rw [if_pos h1]
      obtain ⟨m, rfl⟩ := Int.eq_ofNat_of_zero_le h1.1.1
      exact c_odds1 w h h1.1.2 h1.2
    · rw [if_neg h1]
      have A := c_has w X (X.2 0) a
      rw [h.2.2.1.2.1] at A
      refine mk_Tf_odds rfl ?_
      refine sx_Tf_odds ?_
      refine ⟨h.b0, trivial, _, A, fun z Y hq => ?_⟩
      obtain ⟨rfl, rfl⟩ := hq
      refine sx_Tf_odds ?_
      refine ⟨fun _ => ?_, fun q => ?_⟩
      · refine sx_Tf_odds ?_
        exact ⟨kc_Tf_188, CS.rf Y, rfl⟩
      refine ⟨trivial, _, c_isBelow w Y b 2, fun z Y1 hq => ?_⟩
      obtain ⟨rfl, rfl⟩ := hq
      refine sx_Tf_odds ?_
      exact ⟨fun q2 => absurd ⟨pif q, pif q2⟩ h1, fun _ => ⟨kc_Tf_188, CS.rf Y1, rfl⟩⟩
  · unfold a_odds
    by_cases h1 : (0 ≤ a ∧ a < X.1 43 7) ∧ 0 ≤ b ∧ b < 2
    · rw [if_pos h1]
      obtain ⟨m, rfl⟩ := Int.eq_ofNat_of_zero_le h1.1.1
      exact mo_odds1 w h h1.1.2 h1.2
    · rw [if_neg h1]
      refine mk_Mo_odds rfl ?_
      refine sx_Mo_odds ?_
      refine ⟨trivial, _, mo_isMan w X a, fun z Y hq => ?_⟩
      obtain ⟨rfl, rfl⟩ := hq
      refine sx_Mo_odds ?_
      refine ⟨fun _ => ?_, fun q => ?_⟩
      · refine sx_Mo_odds ?_
        exact ⟨kc_Mo_81, ME.rf Y, rfl⟩
      have q1 := pif q
      refine ⟨trivial, _, mo_within w Y b 0 1, fun z Y1 hq => ?_⟩
      obtain ⟨rfl, rfl⟩ := hq
      refine sx_Mo_odds ?_
      refine ⟨fun q2 => ?_, fun _ => ⟨kc_Mo_81, ME.rf Y1, rfl⟩⟩
      have q3 := pif q2
      exact absurd ⟨q1, show 0 ≤ b ∧ b < 2 by omega⟩ h1
