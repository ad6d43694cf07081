/-! ===== the game ===== -/
theorem pc_le8' : ∀ x, x < 256 → pc x ≤ 8 := by decide +kernel
theorem pc8 {u : Nat → Int} {n : Nat} (h : n ≤ 8) : pc (bsN u n) ≤ 8 := pc_le8' _ (Nat.lt_of_lt_of_le (bsN_lt u n) (Nat.le_trans (Nat.pow_le_pow_right (by decide) h) (by decide)))
def lf2 (X : XS) (a : Int) (j : Nat) : Nat := pc (bsN (RT X (SS X ++ [(a, 0)] ++ [((j : Int), 5)])).1 (nM X))
def mlf (X : XS) (a : Int) : Nat → Int
  | 0 => 0
  | k + 1 => max (mlf X a k) (lf2 X a k : Int)
theorem mlf_s (X : XS) (a : Int) (k : Nat) : mlf X a (k + 1) = max (mlf X a k) (lf2 X a k : Int) := rfl
theorem mlf_rng {X : XS} (h : nM X ≤ 8) (a : Int) : ∀ k, 0 ≤ mlf X a k ∧ mlf X a k ≤ 8
  | 0 => ⟨Int.le_refl 0, by show (0 : Int) ≤ 8; decide⟩
  | k + 1 => by
    have ih := mlf_rng h a k
    have : lf2 X a k ≤ 8 := pc8 h
    rw [mlf_s]
    omega
theorem rm_mlf {X Y : XS} (h : RM X Y) (a : Int) : ∀ k : Nat, mlf Y a k = mlf X a k := by
  intro k
  induction k with
  | zero => rfl
  | succ k ih =>
    rw [mlf_s, mlf_s, ih]
    unfold lf2 nM
    rw [h.rt, h.ss, h 43 (by omega)]
theorem c_mla (w : WD) {X Y : XS} (h : J X) (hC0 : CS X Y) {a : Int} (ha : 0 ≤ a ∧ a < X.1 43 7) : MS w M_Tf_mostLeftAfter [.inr (.inr (6, 1)), .inl a] Y (fun z Z => CS X Z ∧ z = mlf X a (nM X)) := by
  have hn := h.n
  have hns := h.ns
  refine mk_Tf_mostLeftAfter rfl ?_
  refine tx_Tf_mostLeftAfter 4 ?_
  have L : ∀ j, j ≤ nM X → ∀ (c s : Int) (Z : XS) (y : Option V), c = (j : Int) → s = mlf X a j → CS X Z → Go w K_Tf_mostLeftAfter 4 [some (.inr (.inr (6, 1))), some (.inl a), some (.inl s), some (.inl c), y] [] Z (fun z Z => CS X Z ∧ z = mlf X a (nM X)) := by
    refine lp ?_
    intro j hj ih c s Z y hc hs hC
    subst hc
    subst hs
    have hJ := h.cs hC
    have hcnt : Z.1 (Z.2 0) 9 = (nM X : Int) := by rw [hJ.2.2.1.2.1, hC.1 43 (by omega)]; exact hn.1
    refine sx_Tf_mostLeftAfter ?_
    refine ⟨hJ.b0, fun q => ?_, fun q => ?_⟩
    · have e : j = nM X := by omega
      subst e
      refine sx_Tf_mostLeftAfter ?_
      exact ⟨trivial, hC, rfl⟩
    · have hjn : j < nM X := by omega
      have es : nS Z = nS X := by unfold nS; rw [hC.1 43 (by omega)]
      refine ⟨trivial, _, c_take w hJ, fun _ Z1 hq => ?_⟩
      obtain ⟨g1, g2⟩ := hq
      rw [hC.rm.ss, es] at g2
      have g1 := hC.tr g1
      refine sx_Tf_mostLeftAfter ?_
      refine ⟨trivial, _, c_tadd w g2 (show nS X < 30 by omega) a 0, fun _ Z2 hq => ?_⟩
      obtain ⟨g3, g4⟩ := hq
      have g3 := g1.tr g3
      refine sx_Tf_mostLeftAfter ?_
      refine ⟨trivial, _, c_tadd w g4 (show nS X + 1 < 30 by omega) (j : Int) 5, fun _ Z3 hq => ?_⟩
      obtain ⟨g5, g6⟩ := hq
      have g5 := g3.tr g5
      have A := c_trial w h g5 g6 (fun q hq => by
        rcases List.mem_append.mp hq with hq | hq
        · rcases List.mem_append.mp hq with hq | hq
          · exact h.sin q hq
          · rw [List.mem_singleton.mp hq]; exact ⟨ha.1, by show a < (nM X : Int); omega⟩
        · rw [List.mem_singleton.mp hq]; exact ⟨by show 0 ≤ (j : Int); omega, by show (j : Int) < (nM X : Int); omega⟩)
      refine sx_Tf_mostLeftAfter ?_
      refine ⟨(h.cs g5).b0, trivial, _, A, fun z Z4 hq => ?_⟩
      obtain ⟨g7, -, rfl⟩ := hq
      refine sx_Tf_mostLeftAfter ?_
      refine ⟨trivial, _, c_bc w Z4 (bs512 (by omega)), fun z Z5 hq => ?_⟩
      obtain ⟨rfl, rfl⟩ := hq
      refine sx_Tf_mostLeftAfter ?_
      exact ih hjn _ _ _ _ (w1 rfl (by omega)) rfl g7
  exact L 0 (Nat.zero_le _) 0 0 Y _ rfl rfl hC0
theorem mo_ml (w : WD) {X Y : XS} (h : J X) (hM0 : MEn (nS X) X Y) (hs0 : Y.1 43 19 = (nS X : Int)) {a : Int} (ha : 0 ≤ a ∧ a < X.1 43 7) : MS w M_Mo_mostLeft [.inr (.inr (7, 43)), .inl a] Y (fun z Z => MEn (nS X) X Z ∧ Z.1 43 19 = (nS X : Int) ∧ z = mlf X a (nM X)) := by
  have hn := h.n
  have hns := h.ns
  refine mk_Mo_mostLeft rfl ?_
  refine sx_Mo_mostLeft ?_
  refine ⟨trivial, _, mo_layS w (h.sml.men hM0 hs0) (show nS X < 31 by omega) (a := a) (b := 0) ⟨ha.1, by show a < (nM X : Int); omega⟩, fun _ Y1 hq => ?_⟩
  obtain ⟨g1, g2⟩ := hq
  have g1 := hM0.tr g1 (Nat.le_refl _)
  refine tx_Mo_mostLeft 4 ?_
  have L : ∀ j, j ≤ nM X → ∀ (c s : Int) (Z : XS) (y : Option V), c = (j : Int) → s = mlf X a j → MEn (nS X + 1) Y1 Z → Z.1 43 19 = ((nS X + 1 : Nat) : Int) → Go w K_Mo_mostLeft 10 [some (.inr (.inr (7, 43))), some (.inl a), some (.inl s), some (.inl c), y] [] Z (fun z Z => MEn (nS X) X Z ∧ Z.1 43 19 = (nS X : Int) ∧ z = mlf X a (nM X)) := by
    refine lp ?_
    intro j hj ih c s Z y hc hs hM hs'
    subst hc
    subst hs
    have hT := g1.tr hM (Nat.le_succ _)
    have hcnt : Z.1 43 7 = (nM X : Int) := by rw [hT.2.2.1 7 (by omega)]; exact hn.1
    refine sx_Mo_mostLeft ?_
    refine ⟨fun q => ?_, fun q => ?_⟩
    · have e : j = nM X := by omega
      subst e
      refine sx_Mo_mostLeft ?_
      have e : wr (Z.1 43 19 - 1) = (nS X : Int) := by rw [hs', wr_id (by omega) (by omega)]; omega
      refine ⟨trivial, ?_, ?_, rfl⟩
      · rw [e]
        refine hT.tr (k := nS X) ⟨fun i hi => ?_, rfl, fun k hk => ?_, fun k hk => ?_⟩ (Nat.le_refl _)
        · show up Z.1 43 19 (nS X : Int) i = Z.1 i
          exact up_ne (by omega)
        · have : k ≠ 19 := by omega
          simp [up_g, this]
        · simp [up_g]
      · rw [e]
        simp [up_g]
    · have hjn : j < nM X := by omega
      have A := mo_leftWith w (h.hm.men hT) (g2.men hM hs') (show nS X + 1 < 31 by omega) (law := X.1 43 13) (ab := -9) (hT.2.2.1 13 (by omega)) ((hT.2.2.1 23 (by omega)).trans h.2.2.2.2.2.2.2.1) (a := (j : Int)) (b := 5) ⟨(by omega), by show (j : Int) < (nM X : Int); omega⟩
      refine ⟨trivial, _, A, fun z Z1 hq => ?_⟩
      obtain ⟨g3, g4, rfl⟩ := hq
      have g3 := hM.tr g3 (Nat.le_refl _)
      refine sx_Mo_mostLeft ?_
      refine ⟨trivial, _, mo_size w Z1 (bs512 (show nM X ≤ 9 by omega)), fun z Z2 hq => ?_⟩
      obtain ⟨rfl, rfl⟩ := hq
      have NX : ∀ t : Int, t = mlf X a (j + 1) → Go w K_Mo_mostLeft 41 [some (.inr (.inr (7, 43))), some (.inl a), some (.inl (mlf X a j)), some (.inl (j : Int)), some (.inl (lf2 X a j : Int))] [.inl t] Z2 (fun z Z => MEn (nS X) X Z ∧ Z.1 43 19 = (nS X : Int) ∧ z = mlf X a (nM X)) := by
        intro t ht
        refine sx_Mo_mostLeft ?_
        exact ih hjn _ _ _ _ (w1 rfl (by omega)) ht g3 g4
      refine sx_Mo_mostLeft ?_
      refine ⟨fun q => ?_, fun q => ?_⟩
      · have q : (lf2 X a j : Int) ≤ mlf X a j := q
        refine tx_Mo_mostLeft 1 ?_
        exact NX _ (by rw [mlf_s]; omega)
      · have q : mlf X a j < (lf2 X a j : Int) := q
        exact NX _ (by rw [mlf_s]; show (lf2 X a j : Int) = _; omega)
  exact L 0 (Nat.zero_le _) 0 0 Y1 _ rfl rfl (MEn.rf _ Y1) g2.2.1
def gm (X : XS) : Nat → Int × Int
  | 0 => (-9, 9)
  | k + 1 => if mlf X (k : Int) (nM X) < (gm X k).2 then ((k : Int), mlf X (k : Int) (nM X)) else gm X k
theorem gm_s (X : XS) (k : Nat) : gm X (k + 1) = if mlf X (k : Int) (nM X) < (gm X k).2 then ((k : Int), mlf X (k : Int) (nM X)) else gm X k := rfl
theorem gm_i {X : XS} (h : nM X ≤ 8) : ∀ k, (k = 0 ∧ (gm X k).1 = -9 ∧ (gm X k).2 = 9) ∨ (0 < k ∧ 0 ≤ (gm X k).1)
  | 0 => Or.inl ⟨rfl, rfl, rfl⟩
  | k + 1 => by
    have ih := gm_i h k
    have := mlf_rng h (k : Int) (nM X)
    rw [gm_s]
    right
    refine ⟨by omega, ?_⟩
    split
    · show 0 ≤ (k : Int); omega
    · omega
theorem rm_gm {X Y : XS} (h : RM X Y) : ∀ k : Nat, gm Y k = gm X k := by
  intro k
  have e : nM Y = nM X := by unfold nM; rw [h 43 (by omega)]
  induction k with
  | zero => rfl
  | succ k ih => rw [gm_s, gm_s, ih, rm_mlf h, e]
def a_game (a : Int) (X : XS) : Int := if 0 ≤ a ∧ a < 2 then (if X.1 43 5 * X.1 43 6 = 0 then -3 else if (gm X (nM X)).1 = -9 ∨ a = 1 then (gm X (nM X)).1 else (gm X (nM X)).2) else -2
theorem p_game (w : WD) (a : Int) : PAIR w M_Tf_game M_Mo_game [.inl a] := by
  refine PAIR.ask (a_game a) (fun X Y h => ?_) (fun X h => ?_) (fun X h => ?_)
  · have e : nM Y = nM X := by unfold nM; rw [h 43 (by omega)]
    unfold a_game
    rw [rm_gm h, e, h 43 (by omega)]
  · have hal := h.all
    have hn := h.n
    unfold a_game
    refine mk_Tf_game rfl ?_
    refine sx_Tf_game ?_
    refine ⟨trivial, _, c_isBelow w X a 2, fun z Y hq => ?_⟩
    obtain ⟨rfl, rfl⟩ := hq
    refine sx_Tf_game ?_
    refine ⟨fun q => ?_, fun q => ⟨trivial, CS.rf Y, by rw [if_neg (nif q)]⟩⟩
    rw [if_pos (pif q)]
    refine sx_Tf_game ?_
    refine ⟨fun q2 => ?_, fun q2 => ?_⟩
    · have q2 : Y.1 1 8 ≠ 0 := q2
      rw [if_neg (show ¬ Y.1 43 5 * Y.1 43 6 = 0 by omega)]
      refine tx_Tf_game 6 ?_
      have L : ∀ j, j ≤ nM Y → ∀ (c : Int) (Z : XS) (y : Option V), c = (j : Int) → CS Y Z → Go w K_Tf_game 30 [some (.inr (.inr (6, 1))), some (.inl a), some (.inl (gm Y j).1), some (.inl (gm Y j).2), some (.inl c), y] [] Z (fun z Z => CS Y Z ∧ z = if (gm Y (nM Y)).1 = -9 ∨ a = 1 then (gm Y (nM Y)).1 else (gm Y (nM Y)).2) := by
        refine lp ?_
        intro j hj ih c Z y hc hC
        subst hc
        have hJ := h.cs hC
        have hcnt : Z.1 (Z.2 0) 9 = (nM Y : Int) := by rw [hJ.2.2.1.2.1, hC.1 43 (by omega)]; exact hn.1
        refine sx_Tf_game ?_
        refine ⟨hJ.b0, fun q => ?_, fun q => ?_⟩
        · have e : j = nM Y := by omega
          subst e
          refine sx_Tf_game ?_
          refine ⟨fun q => ?_, fun q => ⟨fun q3 => ?_, fun q3 => ?_⟩⟩
          · rw [if_pos (Or.inl q)]
            refine sx_Tf_game ?_
            refine sx_Tf_game ?_
            exact ⟨trivial, hC, rfl⟩
          · rw [if_neg (fun z => z.elim q q3)]
            refine sx_Tf_game ?_
            exact ⟨trivial, hC, rfl⟩
          · rw [if_pos (Or.inr q3)]
            refine sx_Tf_game ?_
            exact ⟨trivial, hC, rfl⟩
        · have hjn : j < nM Y := by omega
          refine ⟨trivial, _, c_mla w h hC (a := (j : Int)) (by omega), fun z Z1 hq => ?_⟩
          obtain ⟨g1, rfl⟩ := hq
          have NX : ∀ p : Int × Int, p = gm Y (j + 1) → Go w K_Tf_game 62 [some (.inr (.inr (6, 1))), some (.inl a), some (.inl p.1), some (.inl p.2), some (.inl (j : Int)), some (.inl (mlf Y (j : Int) (nM Y)))] [] Z1 (fun z Z => CS Y Z ∧ z = if (gm Y (nM Y)).1 = -9 ∨ a = 1 then (gm Y (nM Y)).1 else (gm Y (nM Y)).2) := by
            intro p hp
            subst hp
            refine sx_Tf_game ?_
            exact ih hjn _ _ _ (w1 rfl (by omega)) g1
          refine tx_Tf_game 4 ?_
          refine ⟨fun q => ?_, fun q => ?_⟩
          · exact NX (gm Y j) (by rw [gm_s, if_neg (Int.not_lt.mpr q)])
          · refine tx_Tf_game 4 ?_
            exact NX ((j : Int), mlf Y (j : Int) (nM Y)) (by rw [gm_s, if_pos q])
      exact L 0 (Nat.zero_le _) 0 Y none rfl (CS.rf Y)
    · have q2 : Y.1 1 8 = 0 := q2
      rw [if_pos (show Y.1 43 5 * Y.1 43 6 = 0 by omega)]
      exact ⟨trivial, CS.rf Y, rfl⟩
  · have hn := h.n
    have hns := h.ns
    unfold a_game
    refine mk_Mo_game rfl ?_
    refine sx_Mo_game ?_
    refine ⟨trivial, _, mo_within w X a 0 1, fun z Y hq => ?_⟩
    obtain ⟨rfl, rfl⟩ := hq
    refine sx_Mo_game ?_
    refine ⟨fun q => ?_, fun q => ⟨trivial, ME.rf Y, by rw [if_neg (fun z => nif q (by omega))]⟩⟩
    have h1 := pif q
    rw [if_pos (show 0 ≤ a ∧ a < 2 by omega)]
    refine sx_Mo_game ?_
    refine ⟨trivial, _, mo_all w h, fun z Y2 hq => ?_⟩
    obtain ⟨rfl, rfl⟩ := hq
    refine sx_Mo_game ?_
    refine ⟨fun q => ?_, fun q => ⟨trivial, ME.rf Y2, by rw [if_pos q]⟩⟩
    rw [if_neg q]
    refine tx_Mo_game 6 ?_
    have L : ∀ j, j ≤ nM Y2 → ∀ (c s : Int) (Z : XS) (y : Option V), c = (j : Int) → (0 < j → s = (gm Y2 j).2) → MEn (nS Y2) Y2 Z → Z.1 43 19 = (nS Y2 : Int) → Go w K_Mo_game 30 [some (.inr (.inr (7, 43))), some (.inl a), some (.inl (gm Y2 j).1), some (.inl s), some (.inl c), y] [] Z (fun z Z => ME Y2 Z ∧ z = if (gm Y2 (nM Y2)).1 = -9 ∨ a = 1 then (gm Y2 (nM Y2)).1 else (gm Y2 (nM Y2)).2) := by
      refine lp ?_
      intro j hj ih c s Z y hc hs hM hs'
      subst hc
      have hi := gm_i hn.2 j
      have hcnt : Z.1 43 7 = (nM Y2 : Int) := by rw [hM.2.2.1 7 (by omega)]; exact hn.1
      refine sx_Mo_game ?_
      refine ⟨fun q => ?_, fun q => ?_⟩
      · have e : j = nM Y2 := by omega
        subst e
        have hE := hM.me (by rw [hs']; exact hns.1.symm)
        refine sx_Mo_game ?_
        refine ⟨fun q => ?_, fun q => ⟨fun q3 => ?_, fun q3 => ?_⟩⟩
        · rw [if_pos (Or.inl q)]
          refine sx_Mo_game ?_
          refine sx_Mo_game ?_
          exact ⟨trivial, hE, rfl⟩
        · rw [if_neg (fun z => z.elim q q3)]
          refine sx_Mo_game ?_
          have q : (gm Y2 (nM Y2)).1 ≠ -9 := q
          exact ⟨trivial, hE, hs (by omega)⟩
        · rw [if_pos (Or.inr q3)]
          refine sx_Mo_game ?_
          exact ⟨trivial, hE, rfl⟩
      · have hjn : j < nM Y2 := by omega
        have hr := mlf_rng hn.2 (j : Int) (nM Y2)
        refine ⟨trivial, _, mo_ml w h hM hs' (a := (j : Int)) (by omega), fun z Z1 hq => ?_⟩
        obtain ⟨g1, g2, rfl⟩ := hq
        have NX : ∀ p : Int × Int, p = gm Y2 (j + 1) → Go w K_Mo_game 65 [some (.inr (.inr (7, 43))), some (.inl a), some (.inl p.1), some (.inl p.2), some (.inl (j : Int)), some (.inl (mlf Y2 (j : Int) (nM Y2)))] [] Z1 (fun z Z => ME Y2 Z ∧ z = if (gm Y2 (nM Y2)).1 = -9 ∨ a = 1 then (gm Y2 (nM Y2)).1 else (gm Y2 (nM Y2)).2) := by
          intro p hp
          subst hp
          refine sx_Mo_game ?_
          exact ih hjn _ _ _ _ (w1 rfl (by omega)) (fun _ => rfl) g1 g2
        refine tx_Mo_game 7 ?_
        refine ⟨fun q => ?_, fun q => ⟨fun q3 => ?_, fun q3 => ?_⟩⟩
        · have q : (gm Y2 j).1 = -9 := q
          refine tx_Mo_game 4 ?_
          exact NX ((j : Int), mlf Y2 (j : Int) (nM Y2)) (by rw [gm_s, if_pos (by omega)])
        · have q : (gm Y2 j).1 ≠ -9 := q
          have e := hs (by omega)
          subst e
          exact NX (gm Y2 j) (by rw [gm_s, if_neg (Int.not_lt.mpr q3)])
        · have q : (gm Y2 j).1 ≠ -9 := q
          have e := hs (by omega)
          subst e
          refine tx_Mo_game 4 ?_
          exact NX ((j : Int), mlf Y2 (j : Int) (nM Y2)) (by rw [gm_s, if_pos q3])
    exact L 0 (Nat.zero_le _) 0 0 Y2 none rfl (fun q => absurd q (by decide)) (MEn.rf _ Y2) hns.1
