/-! ===== sheet ===== -/
theorem len_sh {k : Nat} (hk : k < 4) : ln 160 (3 + 2 * k + 1) = 60 := by
  rcases (show k = 0 ∨ k = 1 ∨ k = 2 ∨ k = 3 by omega) with rfl | rfl | rfl | rfl <;> rfl
def LO (k : Nat) (lane n : Int) (X Y : XS) : Prop := (∀ i, i ≠ 3 + 2 * k → i ≠ 3 + 2 * k + 1 → Y.1 i = X.1 i) ∧ Y.2 = X.2 ∧ Y.1 (3 + 2 * k) 1 = 1 ∧ Y.1 (3 + 2 * k) 2 = lane ∧ Y.1 (3 + 2 * k) 3 = n ∧ ∀ i, i < n.toNat → Y.1 (3 + 2 * k + 1) i = 0
theorem c_layOut (w : WD) (X : XS) {k : Nat} (hk : k < 4) {lane n : Int} (hn : 0 ≤ n ∧ n ≤ 60) : MS w M_Sh_layOut [.inr (.inr (3, 3 + 2 * k)), .inl lane, .inl n] X (fun _ Y => LO k lane n X Y) := by
  have hl := len_sh hk
  have em : max 0 (min n 60) = n := by omega
  refine mk_Sh_layOut rfl ?_
  refine tx_Sh_layOut 15 ?_
  refine ⟨Or.inr rfl, ?_⟩
  have L : ∀ j : Nat, j ≤ n.toNat → ∀ (c : Int) (Z : XS), c = (j : Int) → ((∀ i, i ≠ 3 + 2 * k → i ≠ 3 + 2 * k + 1 → Z.1 i = X.1 i) ∧ Z.2 = X.2 ∧ Z.1 (3 + 2 * k) 1 = 1 ∧ Z.1 (3 + 2 * k) 2 = lane ∧ Z.1 (3 + 2 * k) 3 = n ∧ ∀ i, i < j → Z.1 (3 + 2 * k + 1) i = 0) → Go w K_Sh_layOut 26 [some (.inr (.inr (3, 3 + 2 * k))), some (.inl lane), some (.inl n), some (.inl c)] [] Z (fun _ Y => LO k lane n X Y) := by
    refine lp ?_
    intro j hj ih c Z hc hZ
    subst hc
    obtain ⟨z1, z2, z3, z4, z5, z6⟩ := hZ
    refine sx_Sh_layOut ?_
    refine ⟨fun q => ?_, fun q => ?_⟩
    · have q : Z.1 (3 + 2 * k) 3 ≤ (j : Int) := q
      have e : j = n.toNat := by omega
      subst e
      refine sx_Sh_layOut ?_
      exact ⟨z1, z2, z3, z4, z5, z6⟩
    · have q : (j : Int) < Z.1 (3 + 2 * k) 3 := q
      have hjn : j < n.toNat := by omega
      refine ⟨(by omega), by show _ < ((ln 160 (3 + 2 * k + 1) : Nat) : Int); rw [hl]; omega, ?_⟩
      have r : ∀ s, up Z.1 (3 + 2 * k + 1) j 0 (3 + 2 * k) s = Z.1 (3 + 2 * k) s := fun s => by rw [up_ne (show 3 + 2 * k ≠ 3 + 2 * k + 1 by omega)]
      refine ih hjn _ _ (w1 rfl (by omega)) ⟨fun i p1 p2 => ?_, z2, (r 1).trans z3, (r 2).trans z4, (r 3).trans z5, fun i hi => ?_⟩
      · show up Z.1 (3 + 2 * k + 1) j 0 i = X.1 i
        rw [up_ne p2]
        exact z1 i p1 p2
      · show up Z.1 (3 + 2 * k + 1) j 0 (3 + 2 * k + 1) i = 0
        rw [up_row]
        unfold u1
        split
        · rfl
        · exact z6 i (by omega)
  refine L 0 (Nat.zero_le _) 0 _ rfl ⟨fun i p1 p2 => ?_, rfl, ?_, ?_, ?_, fun i hi => absurd hi (Nat.not_lt_zero i)⟩
  · show up (up (up X.1 (3 + 2 * k) 1 1) (3 + 2 * k) 2 lane) (3 + 2 * k) 3 (max 0 (min n 60)) i = X.1 i
    rw [up_ne p1, up_ne p1, up_ne p1]
  · simp [up_g]
  · simp [up_g]
  · simp [up_g]
    exact em
theorem p_sheet (w : WD) (a b n : Int) : PAIR w M_Tf_sheet M_Mo_sheet [.inl a, .inl b, .inl n] := by
  by_cases h1 : 0 ≤ a ∧ a < 4
  · by_cases h2 : (0 ≤ b ∧ b < 3) ∧ n ≤ 60
    · by_cases h3 : 0 ≤ n
      · obtain ⟨k, rfl⟩ := Int.eq_ofNat_of_zero_le h1.1
        have hk : k < 4 := by omega
        intro X h
        refine ⟨fun z Y => z = 1 ∧ LO k b n (up X.1 1 11 0, X.2) Y, ?_, fun z Y hq => ?_⟩
        · refine mk_Tf_sheet rfl ?_
          refine sx_Tf_sheet ?_
          refine ⟨trivial, _, c_isBelow w _ (k : Int) 4, fun z Y hq => ?_⟩
          obtain ⟨rfl, rfl⟩ := hq
          refine sx_Tf_sheet ?_
          refine ⟨fun _ => ?_, fun q => absurd h1 (nif q)⟩
          refine sx_Tf_sheet ?_
          refine ⟨trivial, _, c_isBelow w _ b 3, fun z Y hq => ?_⟩
          obtain ⟨rfl, rfl⟩ := hq
          refine sx_Tf_sheet ?_
          refine ⟨fun q => absurd h2.1 (nif q), fun _ => ⟨fun _ => ?_, fun q => absurd h2.2 (Int.not_le.mpr q)⟩⟩
          refine sx_Tf_sheet ?_
          refine ⟨fun _ => ?_, fun q => absurd h3 (Int.not_le.mpr q)⟩
          refine sx_Tf_sheet ?_
          refine ⟨(by omega), (by omega), trivial, _, c_layOut w _ hk ⟨h3, h2.2⟩, fun z Y hq => ?_⟩
          refine sx_Tf_sheet ?_
          exact ⟨trivial, rfl, hq⟩
        · obtain ⟨rfl, hY⟩ := hq
          obtain ⟨y1, y2, y3, y4, y5, y6⟩ := hY
          refine ⟨fun z Z => z = 1 ∧ (∀ i, i ≠ 43 → i ≠ 44 → i ≠ 45 → i ≠ 46 → Z.1 i = Y.1 i) ∧ Z.2 = Y.2 ∧ Z.1 43 = u1 (Y.1 43) 0 0 ∧ Z.1 44 = u1 (Y.1 44) k b ∧ Z.1 45 = u1 (Y.1 45) k n ∧ (∀ q, q < 60 → Z.1 46 (60 * k + q) = 0) ∧ ∀ q, q < 60 * k ∨ 60 * k + 60 ≤ q → Z.1 46 q = Y.1 46 q, ?_, fun z Z hq => ?_⟩
          · refine mk_Mo_sheet rfl ?_
            refine sx_Mo_sheet ?_
            refine ⟨trivial, _, mo_isSheet w _ (k : Int), fun z Z hq => ?_⟩
            obtain ⟨rfl, rfl⟩ := hq
            refine sx_Mo_sheet ?_
            refine ⟨fun _ => ?_, fun q => absurd (show 0 ≤ (k : Int) ∧ (k : Int) ≤ 3 by omega) (nif q)⟩
            refine sx_Mo_sheet ?_
            refine ⟨trivial, _, mo_isSort w _ b, fun z Z hq => ?_⟩
            obtain ⟨rfl, rfl⟩ := hq
            refine sx_Mo_sheet ?_
            refine ⟨fun q => absurd (show 0 ≤ b ∧ b ≤ 2 by omega) (nif q), fun _ => ⟨fun _ => ?_, fun q => absurd h2.2 (Int.not_le.mpr q)⟩⟩
            refine sx_Mo_sheet ?_
            refine ⟨fun _ => ?_, fun q => absurd h3 (Int.not_le.mpr q)⟩
            refine tx_Mo_sheet 12 ?_
            refine ⟨(by omega), by show _ < ((4 : Nat) : Int); omega, (by omega), by show _ < ((4 : Nat) : Int); omega, ?_⟩
            have L : ∀ j : Nat, j ≤ 60 → ∀ (c : Int) (Z : XS), c = (j : Int) → ((∀ i, i ≠ 43 → i ≠ 44 → i ≠ 45 → i ≠ 46 → Z.1 i = Y.1 i) ∧ Z.2 = Y.2 ∧ Z.1 43 = u1 (Y.1 43) 0 0 ∧ Z.1 44 = u1 (Y.1 44) k b ∧ Z.1 45 = u1 (Y.1 45) k n ∧ (∀ q, q < j → Z.1 46 (60 * k + q) = 0) ∧ ∀ q, q < 60 * k ∨ 60 * k + 60 ≤ q → Z.1 46 q = Y.1 46 q) → Go w K_Mo_sheet 57 [some (.inr (.inr (7, 43))), some (.inl (k : Int)), some (.inl b), some (.inl n), some (.inl c)] [] Z (fun z Z => z = 1 ∧ (∀ i, i ≠ 43 → i ≠ 44 → i ≠ 45 → i ≠ 46 → Z.1 i = Y.1 i) ∧ Z.2 = Y.2 ∧ Z.1 43 = u1 (Y.1 43) 0 0 ∧ Z.1 44 = u1 (Y.1 44) k b ∧ Z.1 45 = u1 (Y.1 45) k n ∧ (∀ q, q < 60 → Z.1 46 (60 * k + q) = 0) ∧ ∀ q, q < 60 * k ∨ 60 * k + 60 ≤ q → Z.1 46 q = Y.1 46 q) := by
              refine lp ?_
              intro j hj ih c Z hc hZ
              subst hc
              refine sx_Mo_sheet ?_
              refine ⟨fun q => ?_, fun q => ?_⟩
              · have q : (60 : Int) ≤ (j : Int) := q
                have e : j = 60 := by omega
                subst e
                refine sx_Mo_sheet ?_
                exact ⟨trivial, rfl, hZ⟩
              · have q : (j : Int) < 60 := q
                have hjn : j < 60 := by omega
                obtain ⟨z1, z2, z3, z4, z5, z6, z7⟩ := hZ
                have e : wr (wr (60 * (k : Int)) + (j : Int)) = ((60 * k + j : Nat) : Int) := by rw [wr_id (z := 60 * (k : Int)) (by omega) (by omega), wr_id (by omega) (by omega)]; omega
                refine ⟨by rw [e]; omega, by rw [e]; show _ < ((240 : Nat) : Int); omega, ?_⟩
                rw [e, Int.toNat_natCast]
                have u : ∀ i, i ≠ 46 → up Z.1 46 (60 * k + j) 0 i = Z.1 i := fun i p => up_ne p
                refine ih hjn _ _ (w1 rfl (by omega)) ⟨fun i p1 p2 p3 p4 => (u i p4).trans (z1 i p1 p2 p3 p4), z2, (u 43 (by decide)).trans z3, (u 44 (by decide)).trans z4, (u 45 (by decide)).trans z5, fun s hs => ?_, fun s hs => ?_⟩
                · show up Z.1 46 (60 * k + j) 0 46 (60 * k + s) = 0
                  rw [up_row]
                  unfold u1
                  split
                  · rfl
                  · exact z6 s (by omega)
                · show up Z.1 46 (60 * k + j) 0 46 s = _
                  rw [up_row, u1_n (by omega)]
                  exact z7 s hs
            refine L 0 (Nat.zero_le _) 0 _ rfl ⟨fun i p1 p2 p3 p4 => ?_, rfl, ?_, ?_, ?_, fun q hq => absurd hq (Nat.not_lt_zero q), fun q hq => ?_⟩
            · show up (up (up Y.1 43 0 0) 44 k b) 45 k n i = Y.1 i
              rw [up_ne p3, up_ne p2, up_ne p1]
            · show up (up (up Y.1 43 0 0) 44 k b) 45 k n 43 = _
              rw [up_ne (by decide), up_ne (by decide), up_row]
            · show up (up (up Y.1 43 0 0) 44 k b) 45 k n 44 = _
              rw [up_ne (by decide), up_row, up_ne (by decide)]
            · show up (up (up Y.1 43 0 0) 44 k b) 45 k n 45 = _
              rw [up_row, up_ne (by decide), up_ne (by decide)]
            · show up (up (up Y.1 43 0 0) 44 k b) 45 k n 46 q = _
              rw [up_ne (by decide), up_ne (by decide), up_ne (by decide)]
          · obtain ⟨rfl, z1, z2, z3, z4, z5, z6, z7⟩ := hq
            refine ⟨rfl, ?_⟩
            have y1' : ∀ i, i ≠ 1 → i ≠ 3 + 2 * k → i ≠ 3 + 2 * k + 1 → Y.1 i = X.1 i := fun i p0 p1 p2 => by rw [y1 i p1 p2]; show up X.1 1 11 0 i = X.1 i; exact up_ne p0
            have r1 : Z.1 1 = u1 (X.1 1) 11 0 := by rw [z1 1 (by omega) (by omega) (by omega) (by omega), y1 1 (by omega) (by omega)]; show up X.1 1 11 0 1 = _; exact up_row
            have r43 : Y.1 43 = X.1 43 := y1' 43 (by omega) (by omega) (by omega)
            refine h.sh (fun i hi => (z1 i (by omega) (by omega) (by omega) (by omega)).trans (y1' i (by omega) (by omega) (by omega))) (z2.trans y2) (fun i hi => by rw [r1, u1_n (by omega)]) (fun i hi => by rw [z3, u1_n (by omega), r43]) (by rw [r1, z3, u1_n (by decide), u1_n (by decide), r43]; exact h.2.2.2.2.2.2.2.2.1) (by rw [r1, z3, u1_s, u1_s]) (fun q hq => ?_)
            have e44 : Y.1 44 = X.1 44 := y1' 44 (by omega) (by omega) (by omega)
            have e45 : Y.1 45 = X.1 45 := y1' 45 (by omega) (by omega) (by omega)
            have e46 : Y.1 46 = X.1 46 := y1' 46 (by omega) (by omega) (by omega)
            by_cases e : q = k
            · subst e
              right
              rw [z1 (3 + 2 * q) (by omega) (by omega) (by omega) (by omega), z1 (3 + 2 * q + 1) (by omega) (by omega) (by omega) (by omega), z4, z5, u1_s, u1_s]
              refine ⟨y3, by omega, by omega, y4, y5, h3, h2.2, fun i hi => ?_⟩
              rw [y6 i hi, z6 i (by omega)]
            · have hq' := h.1 q hq
              rw [z1 (3 + 2 * q) (by omega) (by omega) (by omega) (by omega), z1 (3 + 2 * q + 1) (by omega) (by omega) (by omega) (by omega), z4, z5, u1_n e, u1_n e, y1' (3 + 2 * q) (by omega) (by omega) (show 3 + 2 * q ≠ 3 + 2 * k + 1 by omega), y1' (3 + 2 * q + 1) (by omega) (show 3 + 2 * q + 1 ≠ 3 + 2 * k by omega) (by omega), e44, e45]
              rcases hq' with hq' | ⟨a1, a2, a3, a4, a5, a6, a7, a8⟩
              · exact Or.inl hq'
              · refine Or.inr ⟨a1, a2, a3, a4, a5, a6, a7, fun i hi => ?_⟩
                rw [z7 (60 * q + i) (by omega), e46]
                exact a8 i hi
      · refine PAIR.flt (fun _ => -14) (fun _ => 4) (fun X h => ?_) (fun X Y h g => ?_)
        · have S0 := SW.one 1 11 X 0
          refine mk_Tf_sheet rfl ?_
          refine sx_Tf_sheet ?_
          refine ⟨trivial, _, c_isBelow w _ a 4, fun z Y hq => ?_⟩
          obtain ⟨rfl, rfl⟩ := hq
          refine sx_Tf_sheet ?_
          refine ⟨fun _ => ?_, fun q => absurd h1 (nif q)⟩
          refine sx_Tf_sheet ?_
          refine ⟨trivial, _, c_isBelow w _ b 3, fun z Y hq => ?_⟩
          obtain ⟨rfl, rfl⟩ := hq
          refine sx_Tf_sheet ?_
          refine ⟨fun q => absurd h2.1 (nif q), fun _ => ⟨fun _ => ?_, fun q => absurd h2.2 (Int.not_le.mpr q)⟩⟩
          refine sx_Tf_sheet ?_
          refine ⟨fun q => absurd q h3, fun _ => ?_⟩
          refine ⟨trivial, _, c_faulted w _ 4, fun z Y hq => ?_⟩
          obtain ⟨rfl, rfl⟩ := hq
          refine sx_Tf_sheet ?_
          exact ⟨trivial, S0.tr (SW.one 1 11 _ 4), by decide⟩
        · have S0 := SW.one 43 0 Y 0
          refine mk_Mo_sheet rfl ?_
          refine sx_Mo_sheet ?_
          refine ⟨trivial, _, mo_isSheet w _ a, fun z Z hq => ?_⟩
          obtain ⟨rfl, rfl⟩ := hq
          refine sx_Mo_sheet ?_
          refine ⟨fun _ => ?_, fun q => absurd (show 0 ≤ a ∧ a ≤ 3 by omega) (nif q)⟩
          refine sx_Mo_sheet ?_
          refine ⟨trivial, _, mo_isSort w _ b, fun z Z hq => ?_⟩
          obtain ⟨rfl, rfl⟩ := hq
          refine sx_Mo_sheet ?_
          refine ⟨fun q => absurd (show 0 ≤ b ∧ b ≤ 2 by omega) (nif q), fun _ => ⟨fun _ => ?_, fun q => absurd h2.2 (Int.not_le.mpr q)⟩⟩
          refine sx_Mo_sheet ?_
          refine ⟨fun q => absurd q h3, fun _ => ?_⟩
          refine ⟨trivial, _, mo_fails w _ 4, fun z Z hq => ?_⟩
          obtain ⟨rfl, rfl⟩ := hq
          refine sx_Mo_sheet ?_
          exact ⟨trivial, S0.tr (SW.one 43 0 _ 4), by decide⟩
    · refine PAIR.flt (fun _ => -2) (fun _ => 0) (fun X h => ?_) (fun X Y h g => ?_)
      · have S0 := SW.one 1 11 X 0
        refine mk_Tf_sheet rfl ?_
        refine sx_Tf_sheet ?_
        refine ⟨trivial, _, c_isBelow w _ a 4, fun z Y hq => ?_⟩
        obtain ⟨rfl, rfl⟩ := hq
        refine sx_Tf_sheet ?_
        refine ⟨fun _ => ?_, fun q => absurd h1 (nif q)⟩
        refine sx_Tf_sheet ?_
        refine ⟨trivial, _, c_isBelow w _ b 3, fun z Y hq => ?_⟩
        obtain ⟨rfl, rfl⟩ := hq
        refine sx_Tf_sheet ?_
        refine ⟨fun q => ?_, fun q => ⟨fun q2 => absurd ⟨pif q, q2⟩ h2, fun q2 => ?_⟩⟩
        · refine sx_Tf_sheet ?_
          exact ⟨trivial, S0, rfl⟩
        · exact ⟨trivial, S0, rfl⟩
      · have S0 := SW.one 43 0 Y 0
        refine mk_Mo_sheet rfl ?_
        refine sx_Mo_sheet ?_
        refine ⟨trivial, _, mo_isSheet w _ a, fun z Z hq => ?_⟩
        obtain ⟨rfl, rfl⟩ := hq
        refine sx_Mo_sheet ?_
        refine ⟨fun _ => ?_, fun q => absurd (show 0 ≤ a ∧ a ≤ 3 by omega) (nif q)⟩
        refine sx_Mo_sheet ?_
        refine ⟨trivial, _, mo_isSort w _ b, fun z Z hq => ?_⟩
        obtain ⟨rfl, rfl⟩ := hq
        refine sx_Mo_sheet ?_
        refine ⟨fun q => ?_, fun q => ⟨fun q2 => absurd ⟨show 0 ≤ b ∧ b < 3 by have := pif q; omega, q2⟩ h2, fun q2 => ?_⟩⟩
        · refine sx_Mo_sheet ?_
          exact ⟨trivial, S0, rfl⟩
        · exact ⟨trivial, S0, rfl⟩
  · refine PAIR.flt (fun _ => -1) (fun _ => 0) (fun X h => ?_) (fun X Y h g => ?_)
    · have S0 := SW.one 1 11 X 0
      refine mk_Tf_sheet rfl ?_
      refine sx_Tf_sheet ?_
      refine ⟨trivial, _, c_isBelow w _ a 4, fun z Y hq => ?_⟩
      obtain ⟨rfl, rfl⟩ := hq
      refine sx_Tf_sheet ?_
      exact ⟨fun q => absurd (pif q) h1, fun q => ⟨trivial, S0, rfl⟩⟩
    · have S0 := SW.one 43 0 Y 0
      refine mk_Mo_sheet rfl ?_
      refine sx_Mo_sheet ?_
      refine ⟨trivial, _, mo_isSheet w _ a, fun z Z hq => ?_⟩
      obtain ⟨rfl, rfl⟩ := hq
      refine sx_Mo_sheet ?_
      exact ⟨fun q => absurd (pif q) (fun z => h1 (by omega)), fun q => ⟨trivial, S0, rfl⟩⟩
