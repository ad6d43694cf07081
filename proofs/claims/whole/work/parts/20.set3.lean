/-! ===== readings, what is told ===== -/
theorem p_reading (w : WD) (a b s : Int) (hs : s = 0 ∨ s = 1) : PAIR w M_Tf_reading M_Mo_reading [.inl a, .inl b, .inl s] := by
  intro X h
  obtain ⟨hT1, hT2, hT3⟩ := h.2.2.2.2.2.1
  have A := c_wmm w h a b
  by_cases h1 : 0 ≤ a ∧ a < X.1 43 7
  · rw [if_pos h1] at A
    by_cases h2 : 0 ≤ b ∧ b < 30
    · rw [if_pos h2] at A
      by_cases h3 : X.1 43 29 = 8
      · refine PAIR.same (r := -4) h ?_ ?_
        · refine mk_Tf_reading rfl ?_
          refine sx_Tf_reading ?_
          refine ⟨trivial, _, A, fun z Y hq => ?_⟩
          obtain ⟨rfl, rfl⟩ := hq
          refine sx_Tf_reading ?_
          refine ⟨fun q => ?_, fun q => absurd rfl q⟩
          have B : MS w M_Re_add [.inr (.inr (2, 23)), .inl a, .inl b, .inl s] Y (fun z Y' => Y' = Y ∧ z = 0) := by
            refine mk_Re_add rfl ?_
            refine sx_Re_add ?_
            refine ⟨fun q => ?_, fun q => ⟨Or.inl rfl, rfl, rfl⟩⟩
            have q : Y.1 23 3 < 8 := q
            omega
          refine sx_Tf_reading ?_
          refine ⟨trivial, _, B, fun z Y1 hq => ?_⟩
          obtain ⟨rfl, rfl⟩ := hq
          refine sx_Tf_reading ?_
          exact ⟨fun q => absurd rfl q, fun q => ⟨trivial, rfl, rfl⟩⟩
        · refine mk_Mo_reading rfl ?_
          refine sx_Mo_reading ?_
          refine ⟨trivial, _, mo_isMan w X a, fun z Y hq => ?_⟩
          obtain ⟨rfl, rfl⟩ := hq
          refine sx_Mo_reading ?_
          refine ⟨fun q => ?_, fun q => absurd h1 (nif q)⟩
          refine sx_Mo_reading ?_
          refine ⟨trivial, _, mo_isMinute w Y b, fun z Y1 hq => ?_⟩
          obtain ⟨rfl, rfl⟩ := hq
          refine sx_Mo_reading ?_
          refine ⟨fun q => ?_, fun q => absurd (show 0 ≤ b ∧ b ≤ 29 by omega) (nif q)⟩
          refine sx_Mo_reading ?_
          exact ⟨fun q => absurd h3 q, fun q => ⟨trivial, rfl, rfl⟩⟩
      · obtain ⟨n, hn⟩ : ∃ n : Nat, X.1 43 29 = (n : Int) := ⟨(X.1 43 29).toNat, by omega⟩
        have hnS : nR X = n := by unfold nR; rw [hn]; rfl
        have hc : X.1 23 3 = (n : Int) := by omega
        refine PAIR.set (r := (n : Int)) (Y1 := (up (up (up (up X.1 24 n a) 25 n b) 26 n s) 23 3 ((n + 1 : Nat) : Int), X.2)) (Z1 := (up (up (up (up (up (up (up (up X.1 24 n a) 25 n b) 26 n s) 23 3 ((n + 1 : Nat) : Int)) 60 n a) 61 n b) 62 n s) 43 29 ((n + 1 : Nat) : Int), X.2)) ?_ ?_ ?_
        · have B : MS w M_Re_add [.inr (.inr (2, 23)), .inl a, .inl b, .inl s] X (fun z Y' => Y' = (up (up (up (up X.1 24 n a) 25 n b) 26 n s) 23 3 ((n + 1 : Nat) : Int), X.2) ∧ z = 1) := by
            refine mk_Re_add rfl ?_
            refine sx_Re_add ?_
            refine ⟨fun q => ?_, fun q => ?_⟩
            · refine sx_Re_add ?_
              refine ⟨by show 0 ≤ X.1 23 3; omega, by show X.1 23 3 < ((8 : Nat) : Int); omega, by show 0 ≤ X.1 23 3; omega, by show X.1 23 3 < ((8 : Nat) : Int); omega, by show 0 ≤ X.1 23 3; omega, by show X.1 23 3 < ((8 : Nat) : Int); omega, hs, Or.inr rfl, ?_, rfl⟩
              have e : wr (X.1 23 3 + 1) = ((n + 1 : Nat) : Int) := w1 hc (by omega)
              show (up (up (up (up X.1 24 (X.1 23 3).toNat a) 25 (X.1 23 3).toNat b) 26 (X.1 23 3).toNat s) 23 3 (wr (X.1 23 3 + 1)), X.2) = _
              rw [e, hc]
              rfl
            · have q : 8 ≤ X.1 23 3 := q
              omega
          refine mk_Tf_reading rfl ?_
          refine sx_Tf_reading ?_
          refine ⟨trivial, _, A, fun z Y hq => ?_⟩
          obtain ⟨rfl, rfl⟩ := hq
          refine sx_Tf_reading ?_
          refine ⟨fun q => ?_, fun q => absurd rfl q⟩
          refine sx_Tf_reading ?_
          refine ⟨trivial, _, B, fun z Y1 hq => ?_⟩
          obtain ⟨rfl, rfl⟩ := hq
          refine sx_Tf_reading ?_
          refine ⟨fun q => ?_, fun q => absurd q (by decide)⟩
          refine sx_Tf_reading ?_
          refine ⟨trivial, rfl, ?_⟩
          simp only [up_g]
          simp
          rw [wr_id (by omega) (by omega)]
        · generalize hY : (up (up (up (up X.1 24 n a) 25 n b) 26 n s) 23 3 ((n + 1 : Nat) : Int), X.2) = Y1
          have r43 : Y1.1 43 = X.1 43 := by
            rw [← hY]
            show up (up (up (up X.1 24 n a) 25 n b) 26 n s) 23 3 ((n + 1 : Nat) : Int) 43 = X.1 43
            rw [up_ne (by decide), up_ne (by decide), up_ne (by decide), up_ne (by decide)]
          have hZ : (up (up (up (up (up (up (up (up X.1 24 n a) 25 n b) 26 n s) 23 3 ((n + 1 : Nat) : Int)) 60 n a) 61 n b) 62 n s) 43 29 ((n + 1 : Nat) : Int), X.2) = (up (up (up (up Y1.1 60 n a) 61 n b) 62 n s) 43 29 ((n + 1 : Nat) : Int), Y1.2) := by rw [← hY]
          rw [hZ]
          have hc : Y1.1 43 29 = (n : Int) := by rw [r43]; exact hn
          refine mk_Mo_reading rfl ?_
          refine sx_Mo_reading ?_
          refine ⟨trivial, _, mo_isMan w Y1 a, fun z Y hq => ?_⟩
          obtain ⟨rfl, rfl⟩ := hq
          refine sx_Mo_reading ?_
          rw [r43]
          refine ⟨fun q => ?_, fun q => absurd h1 (nif q)⟩
          refine sx_Mo_reading ?_
          refine ⟨trivial, _, mo_isMinute w Y b, fun z Y2 hq => ?_⟩
          obtain ⟨rfl, rfl⟩ := hq
          refine sx_Mo_reading ?_
          refine ⟨fun q => ?_, fun q => absurd (show 0 ≤ b ∧ b ≤ 29 by omega) (nif q)⟩
          refine sx_Mo_reading ?_
          refine ⟨fun q => ?_, fun q => ?_⟩
          · refine sx_Mo_reading ?_
            refine ⟨by show 0 ≤ Y2.1 43 29; omega, by show Y2.1 43 29 < ((8 : Nat) : Int); omega, by show 0 ≤ Y2.1 43 29; omega, by show Y2.1 43 29 < ((8 : Nat) : Int); omega, by show 0 ≤ Y2.1 43 29; omega, by show Y2.1 43 29 < ((8 : Nat) : Int); omega, hs, trivial, ?_, ?_⟩
            · have e : wr (Y2.1 43 29 + 1) = ((n + 1 : Nat) : Int) := w1 hc (by omega)
              show (up (up (up (up Y2.1 60 (Y2.1 43 29).toNat a) 61 (Y2.1 43 29).toNat b) 62 (Y2.1 43 29).toNat s) 43 29 (wr (Y2.1 43 29 + 1)), Y2.2) = _
              rw [e, hc]
              rfl
            · have e : wr (Y2.1 43 29 + 1) = ((n + 1 : Nat) : Int) := w1 hc (by omega)
              show wr (wr (Y2.1 43 29 + 1) - 1) = _
              rw [e, wr_id (by omega) (by omega)]
              omega
          · have q : Y2.1 43 29 = 8 := q
            rw [r43] at q
            exact absurd q h3
        · obtain ⟨j1, j2, j3, j4, j5, j6, j7⟩ := h
          have ro : ∀ i, i ≠ 24 → i ≠ 25 → i ≠ 26 → i ≠ 23 → i ≠ 60 → i ≠ 61 → i ≠ 62 → i ≠ 43 → up (up (up (up (up (up (up (up X.1 24 n a) 25 n b) 26 n s) 23 3 ((n + 1 : Nat) : Int)) 60 n a) 61 n b) 62 n s) 43 29 ((n + 1 : Nat) : Int) i = X.1 i := fun i a1 a2 a3 a4 a5 a6 a7 a8 => by
            rw [up_ne a8, up_ne a7, up_ne a6, up_ne a5, up_ne a4, up_ne a3, up_ne a2, up_ne a1]
          refine ⟨j1.cg (fun i hi => ro i (by omega) (by omega) (by omega) (by omega) (by omega) (by omega) (by omega) (by omega)), j2, j3.cg j2 rfl (fun i hi => ro i (by omega) (by omega) (by omega) (by omega) (by omega) (by omega) (by omega) (by omega)) (by simp [up_g]) (by simp [up_g]) (by simp [up_g]) (by simp [up_g]), j4.cg (by simp [up_g]) (by simp [up_g]), j5.cg (fun i hi => ro i (by omega) (by omega) (by omega) (by omega) (by omega) (by omega) (by omega) (by omega)) (by simp [up_g]) (by simp [up_g]), ?_, ?_⟩
          · refine ⟨by simp [up_g]; omega, by simp [up_g], fun k hk => ?_⟩
            have hk : k < n + 1 := by
              have e : nR (up (up (up (up (up (up (up (up X.1 24 n a) 25 n b) 26 n s) 23 3 ((n + 1 : Nat) : Int)) 60 n a) 61 n b) 62 n s) 43 29 ((n + 1 : Nat) : Int), X.2) = n + 1 := by
                unfold nR
                simp [up_g]
              omega
            by_cases e : k = n
            · subst e
              simp [up_g]
              omega
            · have := j6.2.2 k (by omega)
              simp [up_g, e]
              exact this
          · unfold JX at j7 ⊢
            simp [up_g, j7]
    · rw [if_neg h2] at A
      refine PAIR.same (r := -2) h ?_ ?_
      · refine mk_Tf_reading rfl ?_
        refine sx_Tf_reading ?_
        refine ⟨trivial, _, A, fun z Y hq => ?_⟩
        obtain ⟨rfl, rfl⟩ := hq
        refine sx_Tf_reading ?_
        exact ⟨fun q => absurd q (by decide), fun q => ⟨trivial, rfl, rfl⟩⟩
      · refine mk_Mo_reading rfl ?_
        refine sx_Mo_reading ?_
        refine ⟨trivial, _, mo_isMan w X a, fun z Y hq => ?_⟩
        obtain ⟨rfl, rfl⟩ := hq
        refine sx_Mo_reading ?_
        refine ⟨fun q => ?_, fun q => absurd h1 (nif q)⟩
        refine sx_Mo_reading ?_
        refine ⟨trivial, _, mo_isMinute w Y b, fun z Y1 hq => ?_⟩
        obtain ⟨rfl, rfl⟩ := hq
        refine sx_Mo_reading ?_
        exact ⟨fun q => absurd (pif q) (by omega), fun q => ⟨trivial, rfl, rfl⟩⟩
  · rw [if_neg h1] at A
    refine PAIR.same (r := -1) h ?_ ?_
    · refine mk_Tf_reading rfl ?_
      refine sx_Tf_reading ?_
      refine ⟨trivial, _, A, fun z Y hq => ?_⟩
      obtain ⟨rfl, rfl⟩ := hq
      refine sx_Tf_reading ?_
      exact ⟨fun q => absurd q (by decide), fun q => ⟨trivial, rfl, rfl⟩⟩
    · refine mk_Mo_reading rfl ?_
      refine sx_Mo_reading ?_
      refine ⟨trivial, _, mo_isMan w X a, fun z Y hq => ?_⟩
      obtain ⟨rfl, rfl⟩ := hq
      refine sx_Mo_reading ?_
      exact ⟨fun q => absurd (pif q) h1, fun q => ⟨trivial, rfl, rfl⟩⟩
theorem p_back (w : WD) (k : Int) : PAIR w M_Tf_back M_Mo_back [.inl k] := by
  intro X h
  obtain ⟨hT1, hT2, hT3⟩ := h.2.2.2.2.2.1
  have A := c_isUpTo w X k (X.1 23 3)
  by_cases h1 : 0 ≤ k ∧ k ≤ X.1 43 29
  · refine PAIR.set (r := X.1 43 29 - k) (Y1 := (up X.1 23 3 (X.1 43 29 - k), X.2)) (Z1 := (up (up X.1 23 3 (X.1 43 29 - k)) 43 29 (X.1 43 29 - k), X.2)) ?_ ?_ ?_
    · have e : wr (X.1 23 3 - k) = X.1 43 29 - k := by rw [wr_id (by omega) (by omega)]; omega
      refine mk_Tf_back rfl ?_
      refine sx_Tf_back ?_
      refine ⟨trivial, _, A, fun z Y hq => ?_⟩
      obtain ⟨rfl, rfl⟩ := hq
      refine sx_Tf_back ?_
      refine ⟨fun q => ?_, fun q => absurd (show 0 ≤ k ∧ k ≤ Y.1 23 3 by omega) (nif q)⟩
      refine sx_Tf_back ?_
      refine ⟨trivial, by rw [e], ?_⟩
      simp only [up_g]
      simp [e]
    · have r43 : (up X.1 23 3 (X.1 43 29 - k), X.2).1 43 = X.1 43 := by
        show up X.1 23 3 (X.1 43 29 - k) 43 = X.1 43
        exact up_ne (by decide)
      have e : wr (X.1 43 29 - k) = X.1 43 29 - k := wr_id (by omega) (by omega)
      refine mk_Mo_back rfl ?_
      refine sx_Mo_back ?_
      refine ⟨trivial, _, mo_within w _ k 0 _, fun z Y hq => ?_⟩
      obtain ⟨rfl, rfl⟩ := hq
      refine sx_Mo_back ?_
      rw [r43]
      refine ⟨fun q => ?_, fun q => absurd h1 (nif q)⟩
      refine sx_Mo_back ?_
      refine ⟨trivial, by dsimp only at r43 ⊢; rw [r43, e], ?_⟩
      simp only [up_g]
      simp [e]
    · obtain ⟨j1, j2, j3, j4, j5, j6, j7⟩ := h
      refine ⟨j1.cg (fun i hi => up2 (by omega) (by omega)), j2, j3.cg j2 rfl (fun i hi => up2 (by omega) (by omega)) (by simp [up_g]) (by simp [up_g]) (by simp [up_g]) (by simp [up_g]), j4.cg (by simp [up_g]) (by simp [up_g]), j5.cg (fun i hi => up2 (by omega) (by omega)) (by simp [up_g]) (by simp [up_g]), ?_, ?_⟩
      · refine ⟨by simp [up_g]; omega, by simp [up_g], fun q hq => ?_⟩
        have hq : q < nR X := by
          unfold nR at hq ⊢
          have hq : q < (up (up X.1 23 3 (X.1 43 29 - k)) 43 29 (X.1 43 29 - k) 43 29).toNat := hq
          rw [up_g, if_pos ⟨rfl, rfl⟩] at hq
          omega
        have := j6.2.2 q hq
        simp [up_g]
        exact this
      · unfold JX at j7 ⊢
        simp [up_g, j7]
  · refine PAIR.same (r := -2) h ?_ ?_
    · refine mk_Tf_back rfl ?_
      refine sx_Tf_back ?_
      refine ⟨trivial, _, A, fun z Y hq => ?_⟩
      obtain ⟨rfl, rfl⟩ := hq
      refine sx_Tf_back ?_
      exact ⟨fun q => absurd (pif q) (by omega), fun q => ⟨trivial, rfl, rfl⟩⟩
    · refine mk_Mo_back rfl ?_
      refine sx_Mo_back ?_
      refine ⟨trivial, _, mo_within w X k 0 _, fun z Y hq => ?_⟩
      obtain ⟨rfl, rfl⟩ := hq
      refine sx_Mo_back ?_
      exact ⟨fun q => absurd (pif q) h1, fun q => ⟨trivial, rfl, rfl⟩⟩
def a_many (k : Int) (X : XS) : Int := if k = 0 then X.1 43 5 * X.1 43 6 else if k = 1 then X.1 43 7 else if k = 2 then X.1 43 19 else if k = 3 then X.1 43 29 else if k = 4 then X.1 43 13 else -2
theorem p_many (w : WD) (k : Int) : PAIR w M_Tf_many M_Mo_many [.inl k] := by
  refine PAIR.ask (a_many k) (fun X Y h => by unfold a_many; rw [h 43 (by omega)]) (fun X h => ?_) (fun X h => ?_)
  · refine mk_Tf_many rfl ?_
    refine sx_Tf_many ?_
    refine ⟨⟨fun q => ?_, fun q => ?_, fun q => ?_, fun q => ?_, fun q => ?_, trivial⟩, fun q => ?_⟩ <;> unfold a_many
    · refine sx_Tf_many ?_
      exact ⟨h.b0, trivial, CS.rf X, by rw [if_pos q]; exact h.all.2.2.1⟩
    · refine sx_Tf_many ?_
      exact ⟨h.b0, trivial, CS.rf X, by rw [if_neg (by omega), if_pos (by omega)]; exact h.2.2.1.2.1⟩
    · refine sx_Tf_many ?_
      exact ⟨trivial, CS.rf X, by rw [if_neg (by omega), if_neg (by omega), if_pos (by omega)]; exact h.2.2.2.2.1.2.1⟩
    · refine sx_Tf_many ?_
      exact ⟨trivial, CS.rf X, by rw [if_neg (by omega), if_neg (by omega), if_neg (by omega), if_pos (by omega)]; exact h.2.2.2.2.2.1.2.1⟩
    · refine sx_Tf_many ?_
      exact ⟨trivial, CS.rf X, by rw [if_neg (by omega), if_neg (by omega), if_neg (by omega), if_neg (by omega), if_pos (by omega)]; exact h.2.2.2.1.1⟩
    · refine sx_Tf_many ?_
      exact ⟨trivial, CS.rf X, by rw [if_neg (by omega), if_neg (by omega), if_neg (by omega), if_neg (by omega), if_neg (by omega)]⟩
  · refine mk_Mo_many rfl ?_
    refine sx_Mo_many ?_
    refine ⟨⟨fun q => ?_, fun q => ?_, fun q => ?_, fun q => ?_, fun q => ?_, trivial⟩, fun q => ?_⟩ <;> unfold a_many
    · refine sx_Mo_many ?_
      refine ⟨trivial, _, mo_all w h, fun z Y hq => ?_⟩
      obtain ⟨rfl, rfl⟩ := hq
      refine sx_Mo_many ?_
      exact ⟨trivial, ME.rf Y, by rw [if_pos q]⟩
    · refine sx_Mo_many ?_
      exact ⟨trivial, ME.rf X, by rw [if_neg (by omega), if_pos (by omega)]⟩
    · refine sx_Mo_many ?_
      exact ⟨trivial, ME.rf X, by rw [if_neg (by omega), if_neg (by omega), if_pos (by omega)]⟩
    · refine sx_Mo_many ?_
      exact ⟨trivial, ME.rf X, by rw [if_neg (by omega), if_neg (by omega), if_neg (by omega), if_pos (by omega)]⟩
    · refine sx_Mo_many ?_
      exact ⟨trivial, ME.rf X, by rw [if_neg (by omega), if_neg (by omega), if_neg (by omega), if_neg (by omega), if_pos (by omega)]⟩
    · refine sx_Mo_many ?_
      exact ⟨trivial, ME.rf X, by rw [if_neg (by omega), if_neg (by omega), if_neg (by omega), if_neg (by omega), if_neg (by omega)]⟩
theorem p_trace (w : WD) : PAIR w M_Tf_trace M_Mo_trace [] := by
  refine PAIR.ask (fun X => X.1 43 1) (fun X Y h => by rw [h 43 (by omega)]) (fun X h => ?_) (fun X h => ?_)
  · refine mk_Tf_trace rfl ?_
    refine sx_Tf_trace ?_
    exact ⟨trivial, CS.rf X, h.2.2.2.2.2.2.2.2.1⟩
  · refine mk_Mo_trace rfl ?_
    refine sx_Mo_trace ?_
    exact ⟨trivial, ME.rf X, rfl⟩
theorem p_fault (w : WD) : PAIR w M_Tf_fault M_Mo_fault [] := by
  refine PAIR.ask (fun X => X.1 43 0) (fun X Y h => by rw [h 43 (by omega)]) (fun X h => ?_) (fun X h => ?_)
  · refine mk_Tf_fault rfl ?_
    refine sx_Tf_fault ?_
    exact ⟨trivial, CS.rf X, h.2.2.2.2.2.2.2.2.2⟩
  · refine mk_Mo_fault rfl ?_
    refine sx_Mo_fault ?_
    exact ⟨trivial, ME.rf X, rfl⟩
