/-! ===== stones, readings, what is told ===== -/
theorem c_addFull (w : WD) (X : XS) {t : Nat} (a b : Int) (hn : X.1 t 2 = (len (t + 1) : Int)) : MS w M_St_add [.inr (.inr (4, t)), .inl a, .inl b] X (fun z Y => Y = X ∧ z = 0) := by
  refine mk_St_add rfl ?_
  refine sx_St_add ?_
  refine ⟨fun h => ?_, fun h => ⟨Or.inl rfl, rfl, rfl⟩⟩
  have hx : X.1 t 2 < ((len (t + 1) : Nat) : Int) := h
  omega
theorem mo_lay (w : WD) (X : XS) (a b : Int) {n : Nat} (hn : X.1 43 19 = (n : Int)) (h3 : n < 40) : MS w M_Mo_lay [.inr (.inr (7, 43)), .inl a, .inl b] X (fun _ Y => Y = (up (up (up X.1 53 n a) 54 n b) 43 19 ((n + 1 : Nat) : Int), X.2)) := by
  have n0 : (X.1 43 19).toNat = n := by rw [hn]; rfl
  have e1 : up X.1 53 (X.1 43 19).toNat a 43 19 = (n : Int) := by rw [up_g, if_neg (by omega)]; exact hn
  have e2 : up (up X.1 53 n a) 54 n b 43 19 = (n : Int) := by rw [up_g, if_neg (by omega), up_g, if_neg (by omega)]; exact hn
  refine mk_Mo_lay rfl ?_
  refine sx_Mo_lay ?_
  refine ⟨by show 0 ≤ X.1 43 19; omega, by show X.1 43 19 < ((40 : Nat) : Int); omega, by show 0 ≤ up X.1 53 (X.1 43 19).toNat a 43 19; omega, by show up X.1 53 (X.1 43 19).toNat a 43 19 < ((40 : Nat) : Int); omega, ?_⟩
  show (_, _) = _
  dsimp only
  rw [e1, n0, Int.toNat_natCast, e2, wr_id (by omega) (by omega)]
  rfl
theorem p_stone (w : WD) (a b : Int) : PAIR w M_Tf_stone M_Mo_stone [.inl a, .inl b] := by
  intro X h
  obtain ⟨hT1, hT2, hT3⟩ := h.2.2.2.2.1
  have A := c_wmm w h a b
  by_cases h1 : 0 ≤ a ∧ a < X.1 43 7
  · rw [if_pos h1] at A
    by_cases h2 : 0 ≤ b ∧ b < 30
    · rw [if_pos h2] at A
      by_cases h3 : X.1 43 19 = 6
      · refine PAIR.same (r := -4) h ?_ ?_
        · refine mk_Tf_stone rfl ?_
          refine sx_Tf_stone ?_
          refine ⟨trivial, _, A, fun z Y hq => ?_⟩
          obtain ⟨rfl, rfl⟩ := hq
          refine sx_Tf_stone ?_
          refine ⟨fun q => ?_, fun q => absurd rfl q⟩
          refine sx_Tf_stone ?_
          refine ⟨trivial, _, c_addFull w Y a b (by rw [hT2, h3]; rfl), fun z Y1 hq => ?_⟩
          obtain ⟨rfl, rfl⟩ := hq
          refine sx_Tf_stone ?_
          exact ⟨fun q => absurd rfl q, fun q => ⟨trivial, rfl, rfl⟩⟩
        · refine mk_Mo_stone rfl ?_
          refine sx_Mo_stone ?_
          refine ⟨trivial, _, mo_isMan w X a, fun z Y hq => ?_⟩
          obtain ⟨rfl, rfl⟩ := hq
          refine sx_Mo_stone ?_
          refine ⟨fun q => ?_, fun q => absurd h1 (nif q)⟩
          refine sx_Mo_stone ?_
          refine ⟨trivial, _, mo_isMinute w Y b, fun z Y1 hq => ?_⟩
          obtain ⟨rfl, rfl⟩ := hq
          refine sx_Mo_stone ?_
          refine ⟨fun q => ?_, fun q => absurd (show 0 ≤ b ∧ b ≤ 29 by omega) (nif q)⟩
          refine sx_Mo_stone ?_
          exact ⟨fun q => absurd h3 q, fun q => ⟨trivial, rfl, rfl⟩⟩
      · obtain ⟨n, hn⟩ : ∃ n : Nat, X.1 43 19 = (n : Int) := ⟨(X.1 43 19).toNat, by omega⟩
        have hnS : nS X = n := by unfold nS; rw [hn]; rfl
        refine PAIR.set (r := (n : Int)) (Y1 := (up (up (up X.1 18 n a) 19 n b) 17 2 ((n + 1 : Nat) : Int), X.2)) (Z1 := (up (up (up (up (up (up X.1 18 n a) 19 n b) 17 2 ((n + 1 : Nat) : Int)) 53 n a) 54 n b) 43 19 ((n + 1 : Nat) : Int), X.2)) ?_ ?_ ?_
        · refine mk_Tf_stone rfl ?_
          refine sx_Tf_stone ?_
          refine ⟨trivial, _, A, fun z Y hq => ?_⟩
          obtain ⟨rfl, rfl⟩ := hq
          refine sx_Tf_stone ?_
          refine ⟨fun q => ?_, fun q => absurd rfl q⟩
          refine sx_Tf_stone ?_
          refine ⟨trivial, _, c_add w Y (t := 17) a b (n := n) (by omega) (by show n < 6; omega) (by show n < 6; omega) (by omega), fun z Y1 hq => ?_⟩
          obtain ⟨rfl, rfl⟩ := hq
          refine sx_Tf_stone ?_
          refine ⟨fun q => ?_, fun q => absurd q (by decide)⟩
          refine sx_Tf_stone ?_
          refine ⟨trivial, rfl, ?_⟩
          simp only [up_g]
          simp
          rw [wr_id (by omega) (by omega)]
        · have r43 : (up (up (up X.1 18 n a) 19 n b) 17 2 ((n + 1 : Nat) : Int), X.2).1 43 = X.1 43 := by
            show up (up (up X.1 18 n a) 19 n b) 17 2 ((n + 1 : Nat) : Int) 43 = X.1 43
            rw [up_ne (by decide), up_ne (by decide), up_ne (by decide)]
          refine mk_Mo_stone rfl ?_
          refine sx_Mo_stone ?_
          refine ⟨trivial, _, mo_isMan w _ a, fun z Y hq => ?_⟩
          obtain ⟨rfl, rfl⟩ := hq
          refine sx_Mo_stone ?_
          rw [r43]
          refine ⟨fun q => ?_, fun q => absurd h1 (nif q)⟩
          refine sx_Mo_stone ?_
          refine ⟨trivial, _, mo_isMinute w _ b, fun z Y1 hq => ?_⟩
          obtain ⟨rfl, rfl⟩ := hq
          refine sx_Mo_stone ?_
          refine ⟨fun q => ?_, fun q => absurd (show 0 ≤ b ∧ b ≤ 29 by omega) (nif q)⟩
          refine sx_Mo_stone ?_
          refine ⟨fun q => ?_, fun q => ?_⟩
          · refine sx_Mo_stone ?_
            refine ⟨trivial, _, mo_lay w _ a b (n := n) (by rw [r43]; exact hn) (by omega), fun z Y2 hq => ?_⟩
            subst hq
            refine sx_Mo_stone ?_
            refine ⟨trivial, rfl, ?_⟩
            simp only [up_g]
            simp
            rw [wr_id (by omega) (by omega)]
          · rw [r43] at q
            exact absurd q h3
        · obtain ⟨j1, j2, j3, j4, j5, j6, j7⟩ := h
          have ro : ∀ i, i ≠ 17 → i ≠ 18 → i ≠ 19 → i ≠ 43 → i ≠ 53 → i ≠ 54 → up (up (up (up (up (up X.1 18 n a) 19 n b) 17 2 ((n + 1 : Nat) : Int)) 53 n a) 54 n b) 43 19 ((n + 1 : Nat) : Int) i = X.1 i := fun i a1 a2 a3 a4 a5 a6 => by
            rw [up_ne a4, up_ne a6, up_ne a5, up_ne a1, up_ne a3, up_ne a2]
          refine ⟨j1.cg (fun i hi => ro i (by omega) (by omega) (by omega) (by omega) (by omega) (by omega)), j2, j3.cg j2 rfl (fun i hi => ro i (by omega) (by omega) (by omega) (by omega) (by omega) (by omega)) (by simp [up_g]) (by simp [up_g]) (by simp [up_g]) (by simp [up_g]), j4.cg (by simp [up_g]) (by simp [up_g]), ?_, j6.cg (fun i hi => ro i (by omega) (by omega) (by omega) (by omega) (by omega) (by omega)) (by simp [up_g]) (by simp [up_g]), ?_⟩
          · refine ⟨by simp [up_g]; omega, by simp [up_g], fun k hk => ?_⟩
            have hk : k < n + 1 := by
              have : nS (up (up (up (up (up (up X.1 18 n a) 19 n b) 17 2 ((n + 1 : Nat) : Int)) 53 n a) 54 n b) 43 19 ((n + 1 : Nat) : Int), X.2) = n + 1 := by
                unfold nS
                simp [up_g]
              omega
            by_cases e : k = n
            · subst e
              simp [up_g]
              omega
            · have := j5.2.2 k (by omega)
              simp [up_g, e]
              exact this
          · unfold JX at j7 ⊢
            simp [up_g, j7]
    · rw [if_neg h2] at A
      refine PAIR.same (r := -2) h ?_ ?_
      · refine mk_Tf_stone rfl ?_
        refine sx_Tf_stone ?_
        refine ⟨trivial, _, A, fun z Y hq => ?_⟩
        obtain ⟨rfl, rfl⟩ := hq
        refine sx_Tf_stone ?_
        exact ⟨fun q => absurd q (by decide), fun q => ⟨trivial, rfl, rfl⟩⟩
      · refine mk_Mo_stone rfl ?_
        refine sx_Mo_stone ?_
        refine ⟨trivial, _, mo_isMan w X a, fun z Y hq => ?_⟩
        obtain ⟨rfl, rfl⟩ := hq
        refine sx_Mo_stone ?_
        refine ⟨fun q => ?_, fun q => absurd h1 (nif q)⟩
        refine sx_Mo_stone ?_
        refine ⟨trivial, _, mo_isMinute w Y b, fun z Y1 hq => ?_⟩
        obtain ⟨rfl, rfl⟩ := hq
        refine sx_Mo_stone ?_
        exact ⟨fun q => absurd (pif q) (by omega), fun q => ⟨trivial, rfl, rfl⟩⟩
  · rw [if_neg h1] at A
    refine PAIR.same (r := -1) h ?_ ?_
    · refine mk_Tf_stone rfl ?_
      refine sx_Tf_stone ?_
      refine ⟨trivial, _, A, fun z Y hq => ?_⟩
      obtain ⟨rfl, rfl⟩ := hq
      refine sx_Tf_stone ?_
      exact ⟨fun q => absurd q (by decide), fun q => ⟨trivial, rfl, rfl⟩⟩
    · refine mk_Mo_stone rfl ?_
      refine sx_Mo_stone ?_
      refine ⟨trivial, _, mo_isMan w X a, fun z Y hq => ?_⟩
      obtain ⟨rfl, rfl⟩ := hq
      refine sx_Mo_stone ?_
      exact ⟨fun q => absurd (pif q) h1, fun q => ⟨trivial, rfl, rfl⟩⟩
theorem p_undo (w : WD) (k : Int) : PAIR w M_Tf_undo M_Mo_undo [.inl k] := by
  intro X h
  obtain ⟨hT1, hT2, hT3⟩ := h.2.2.2.2.1
  have A := c_isUpTo w X k (X.1 17 2)
  by_cases h1 : 0 ≤ k ∧ k ≤ X.1 43 19
  · refine PAIR.set (r := X.1 43 19 - k) (Y1 := (up X.1 17 2 (X.1 43 19 - k), X.2)) (Z1 := (up (up X.1 17 2 (X.1 43 19 - k)) 43 19 (X.1 43 19 - k), X.2)) ?_ ?_ ?_
    · have e : wr (X.1 17 2 - k) = X.1 43 19 - k := by rw [wr_id (by omega) (by omega)]; omega
      refine mk_Tf_undo rfl ?_
      refine sx_Tf_undo ?_
      refine ⟨trivial, _, A, fun z Y hq => ?_⟩
      obtain ⟨rfl, rfl⟩ := hq
      refine sx_Tf_undo ?_
      refine ⟨fun q => ?_, fun q => absurd (show 0 ≤ k ∧ k ≤ Y.1 17 2 by omega) (nif q)⟩
      refine sx_Tf_undo ?_
      refine ⟨trivial, by rw [e], ?_⟩
      simp only [up_g]
      simp [e]
    · have r43 : (up X.1 17 2 (X.1 43 19 - k), X.2).1 43 = X.1 43 := by
        show up X.1 17 2 (X.1 43 19 - k) 43 = X.1 43
        exact up_ne (by decide)
      have e : wr (X.1 43 19 - k) = X.1 43 19 - k := wr_id (by omega) (by omega)
      refine mk_Mo_undo rfl ?_
      refine sx_Mo_undo ?_
      refine ⟨trivial, _, mo_within w _ k 0 _, fun z Y hq => ?_⟩
      obtain ⟨rfl, rfl⟩ := hq
      refine sx_Mo_undo ?_
      rw [r43]
      refine ⟨fun q => ?_, fun q => absurd h1 (nif q)⟩
      refine sx_Mo_undo ?_
      refine ⟨trivial, by dsimp only at r43 ⊢; rw [r43, e], ?_⟩
      simp only [up_g]
      simp [e]
    · obtain ⟨j1, j2, j3, j4, j5, j6, j7⟩ := h
      refine ⟨j1.cg (fun i hi => up2 (by omega) (by omega)), j2, j3.cg j2 rfl (fun i hi => up2 (by omega) (by omega)) (by simp [up_g]) (by simp [up_g]) (by simp [up_g]) (by simp [up_g]), j4.cg (by simp [up_g]) (by simp [up_g]), ?_, j6.cg (fun i hi => up2 (by omega) (by omega)) (by simp [up_g]) (by simp [up_g]), ?_⟩
      · refine ⟨by simp [up_g]; omega, by simp [up_g], fun q hq => ?_⟩
        have hq : q < nS X := by
          unfold nS at hq ⊢
          have hq : q < (up (up X.1 17 2 (X.1 43 19 - k)) 43 19 (X.1 43 19 - k) 43 19).toNat := hq
          rw [up_g, if_pos ⟨rfl, rfl⟩] at hq
          omega
        have := j5.2.2 q hq
        simp [up_g]
        exact this
      · unfold JX at j7 ⊢
        simp [up_g, j7]
  · refine PAIR.same (r := -2) h ?_ ?_
    · refine mk_Tf_undo rfl ?_
      refine sx_Tf_undo ?_
      refine ⟨trivial, _, A, fun z Y hq => ?_⟩
      obtain ⟨rfl, rfl⟩ := hq
      refine sx_Tf_undo ?_
      exact ⟨fun q => absurd (pif q) (by omega), fun q => ⟨trivial, rfl, rfl⟩⟩
    · refine mk_Mo_undo rfl ?_
      refine sx_Mo_undo ?_
      refine ⟨trivial, _, mo_within w X k 0 _, fun z Y hq => ?_⟩
      obtain ⟨rfl, rfl⟩ := hq
      refine sx_Mo_undo ?_
      exact ⟨fun q => absurd (pif q) h1, fun q => ⟨trivial, rfl, rfl⟩⟩
