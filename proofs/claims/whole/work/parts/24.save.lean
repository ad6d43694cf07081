/-! ===== saving, worth, coins ===== -/
def sv (X : XS) (m : Nat) (mn : Int) (j : Nat) : Int := if (bsN (RT X (SS X ++ [((j : Int), mn)])).1 (nM X)).testBit m = true then 1 else 0
theorem sv1 {X : XS} {m : Nat} {mn : Int} {j : Nat} : sv X m mn j = 1 ↔ (bsN (RT X (SS X ++ [((j : Int), mn)])).1 (nM X)).testBit m = true := by
  unfold sv
  by_cases e : (bsN (RT X (SS X ++ [((j : Int), mn)])).1 (nM X)).testBit m = true
  · rw [if_pos e]; exact ⟨fun _ => e, fun _ => rfl⟩
  · rw [if_neg e]; exact ⟨fun q => absurd q (by decide), fun q => absurd q e⟩
def a_save (m mn : Int) (X : XS) : Int := if 0 ≤ m ∧ m < X.1 43 7 then (if 0 ≤ mn ∧ mn < 30 then ((bsN (sv X m.toNat mn) (nM X) : Nat) : Int) else -2) else -1
theorem p_save (w : WD) (a b : Int) : PAIR w M_Tf_save M_Mo_save [.inl a, .inl b] := by
  refine PAIR.ask (a_save a b) (fun X Y h => ?_) (fun X h => ?_) (fun X h => ?_)
  · have e : sv Y a.toNat b = sv X a.toNat b := by
      funext k
      unfold sv nM
      rw [h.rt, h.ss, h 43 (by omega)]
    unfold a_save nM
    rw [e, h 43 (by omega)]
  · have hn := h.n
    have A := c_wmm w h a b
    unfold a_save
    refine mk_Tf_save rfl ?_
    refine sx_Tf_save ?_
    refine ⟨trivial, _, A, fun z Y hq => ?_⟩
    obtain ⟨rfl, rfl⟩ := hq
    refine sx_Tf_save ?_
    by_cases h1 : 0 ≤ a ∧ a < Y.1 43 7
    · rw [if_pos h1, if_pos h1]
      by_cases h2 : 0 ≤ b ∧ b < 30
      · rw [if_pos h2, if_pos h2]
        refine ⟨fun q => ?_, fun q => absurd rfl q⟩
        obtain ⟨k, rfl⟩ := Int.eq_ofNat_of_zero_le h1.1
        refine tx_Tf_save 4 ?_
        have L : ∀ j, j ≤ nM Y → ∀ (c s : Int) (Z : XS), c = (j : Int) → s = ((bsN (sv Y k b) j : Nat) : Int) → CS Y Z → Go w K_Tf_save 19 [some (.inr (.inr (6, 1))), some (.inl (k : Int)), some (.inl b), some (.inl 0), some (.inl s), some (.inl c)] [] Z (fun z Z => CS Y Z ∧ z = ((bsN (sv Y k b) (nM Y) : Nat) : Int)) := by
          refine lp ?_
          intro j hj ih c s Z hc hs hC
          subst hc
          subst hs
          have hJ := h.cs hC
          have hcnt : Z.1 (Z.2 0) 9 = (nM Y : Int) := by rw [hJ.2.2.1.2.1, hC.1 43 (by omega)]; exact hn.1
          refine sx_Tf_save ?_
          refine ⟨hJ.b0, fun q => ?_, fun q => ?_⟩
          · have e : j = nM Y := by omega
            subst e
            refine sx_Tf_save ?_
            exact ⟨trivial, hC, rfl⟩
          · have hjn : j < nM Y := by omega
            refine ⟨trivial, _, c_lwsC w h hC (j : Int) b (by omega), fun z Z1 hq => ?_⟩
            obtain ⟨g1, g2, rfl⟩ := hq
            refine sx_Tf_save ?_
            refine ⟨trivial, _, c_isIn w Z1 (k := k) (bs512 (by omega)) (by omega), fun z Z2 hq => ?_⟩
            obtain ⟨rfl, rfl⟩ := hq
            refine sx_Tf_save ?_
            refine ⟨fun q => ?_, fun q => ?_⟩
            · refine sx_Tf_save ?_
              exact ih hjn _ _ _ (w1 rfl (by omega)) (by rw [bsN_s, if_neg (fun z => nif q (sv1.mp z))]) g1
            · refine ⟨(by omega), (by omega), ?_⟩
              exact ih hjn _ _ _ (w1 rfl (by omega)) (by
                show io _ (wr (1 * 2 ^ j)) = _
                rw [sh1 (by omega), bo1 (bs512 (by omega)) (by omega), bsN_s, if_pos (sv1.mpr (pif q))]) g1
        exact L 0 (Nat.zero_le _) 0 0 Y rfl rfl (CS.rf Y)
      · rw [if_neg h2, if_neg h2]
        exact ⟨fun q => absurd q (by decide), fun q => ⟨trivial, CS.rf Y, rfl⟩⟩
    · rw [if_neg h1, if_neg h1]
      exact ⟨fun q => absurd q (by decide), fun q => ⟨trivial, CS.rf Y, rfl⟩⟩
  · have hn := h.n
    have hns := h.ns
    unfold a_save
    refine mk_Mo_save rfl ?_
    refine sx_Mo_save ?_
    refine ⟨trivial, _, mo_isMan w X a, fun z Y hq => ?_⟩
    obtain ⟨rfl, rfl⟩ := hq
    refine sx_Mo_save ?_
    refine ⟨fun q => ?_, fun q => ⟨trivial, ME.rf Y, by rw [if_neg (nif q)]⟩⟩
    have h1 := pif q
    rw [if_pos h1]
    refine sx_Mo_save ?_
    refine ⟨trivial, _, mo_isMinute w Y b, fun z Y1 hq => ?_⟩
    obtain ⟨rfl, rfl⟩ := hq
    refine sx_Mo_save ?_
    refine ⟨fun q => ?_, fun q => ⟨trivial, ME.rf Y1, by rw [if_neg (fun z => nif q (by omega))]⟩⟩
    have h2 := pif q
    rw [if_pos (by omega)]
    obtain ⟨k, rfl⟩ := Int.eq_ofNat_of_zero_le h1.1
    refine tx_Mo_save 4 ?_
    have L : ∀ j, j ≤ nM Y1 → ∀ (c s : Int) (Z : XS), c = (j : Int) → s = ((bsN (sv Y1 k b) j : Nat) : Int) → MEn (nS Y1) Y1 Z → Z.1 43 19 = (nS Y1 : Int) → Go w K_Mo_save 25 [some (.inr (.inr (7, 43))), some (.inl (k : Int)), some (.inl b), some (.inl s), some (.inl c)] [] Z (fun z Z => ME Y1 Z ∧ z = ((bsN (sv Y1 k b) (nM Y1) : Nat) : Int)) := by
      refine lp ?_
      intro j hj ih c s Z hc hs hM hs'
      subst hc
      subst hs
      have hcnt : Z.1 43 7 = (nM Y1 : Int) := by rw [hM.2.2.1 7 (by omega)]; exact hn.1
      refine sx_Mo_save ?_
      refine ⟨fun q => ?_, fun q => ?_⟩
      · have e : j = nM Y1 := by omega
        subst e
        refine sx_Mo_save ?_
        exact ⟨trivial, hM.me (by rw [hs']; exact hns.1.symm), rfl⟩
      · have hjn : j < nM Y1 := by omega
        refine ⟨trivial, _, mo_lwC w h hM hs' (j : Int) b (by omega), fun z Z1 hq => ?_⟩
        obtain ⟨g1, g2, rfl⟩ := hq
        have hb := bt1 (S := bsN (RT Y1 (SS Y1 ++ [((j : Int), b)])).1 (nM Y1)) (k := k) (bs512 (by omega)) (by omega)
        refine sx_Mo_save ?_
        refine ⟨(by omega), (by omega), fun q => ?_, fun q => ?_⟩
        · have q : ia ((bsN (RT Y1 (SS Y1 ++ [((j : Int), b)])).1 (nM Y1) : Nat) / 2 ^ k) 1 ≠ 1 := q
          refine sx_Mo_save ?_
          exact ih hjn _ _ _ (w1 rfl (by omega)) (by rw [bo0 (bs512 (by omega)), bsN_s, if_neg (fun z => q (by rw [hb, if_pos (sv1.mp z)]))]) g1 g2
        · have q : ia ((bsN (RT Y1 (SS Y1 ++ [((j : Int), b)])).1 (nM Y1) : Nat) / 2 ^ k) 1 = 1 := q
          refine ⟨(by omega), (by omega), ?_⟩
          refine sx_Mo_save ?_
          exact ih hjn _ _ _ (w1 rfl (by omega)) (by
            show io _ (wr (1 * 2 ^ j)) = _
            rw [sh1 (by omega), bo1 (bs512 (by omega)) (by omega), bsN_s, if_pos (sv1.mpr (Decidable.byContradiction (fun z => by rw [hb, if_neg z] at q; cases q)))]) g1 g2
    exact L 0 (Nat.zero_le _) 0 0 Y1 rfl rfl (MEn.rf _ Y1) hns.1
/-! coins -/
def cn (X : XS) (d : Int) : Nat → Int
  | 0 => 0
  | k + 1 => if (bsN (RN X 30).1 (nM X)).testBit k = true ∧ X.1 48 k = d then cn X d k + X.1 49 k else cn X d k
theorem cn_s (X : XS) (d : Int) (k : Nat) : cn X d (k + 1) = if (bsN (RN X 30).1 (nM X)).testBit k = true ∧ X.1 48 k = d then cn X d k + X.1 49 k else cn X d k := rfl
theorem cn_rng {X : XS} (h : J X) (d : Int) : ∀ k, k ≤ nM X → 0 ≤ cn X d k ∧ cn X d k ≤ 9 * (k : Int)
  | 0, _ => ⟨Int.le_refl 0, by show (0 : Int) ≤ 9 * 0; omega⟩
  | k + 1, hk => by
    have ih := cn_rng h d k (by omega)
    obtain ⟨-, -, a, -⟩ := h.2.2.1.2.2.2.1 k (by omega)
    rw [cn_s]
    split <;> omega
def a_coin (d : Int) (X : XS) : Int := if 0 ≤ d ∧ d < 2 then (if X.1 43 5 * X.1 43 6 = 0 then -3 else cn X d (nM X)) else -2
theorem p_coin (w : WD) (a : Int) : PAIR w M_Tf_coin M_Mo_coin [.inl a] := by
  refine PAIR.ask (a_coin a) (fun X Y h => ?_) (fun X h => ?_) (fun X h => ?_)
  · have e : ∀ k, cn Y a k = cn X a k := by
      intro k
      induction k with
      | zero => rfl
      | succ k ih => rw [cn_s, cn_s, ih, h.rn, h 48 (by omega), h 49 (by omega)]; unfold nM; rw [h 43 (by omega)]
    unfold a_coin nM
    rw [e, h 43 (by omega)]
  · have hal := h.all
    have hn := h.n
    unfold a_coin
    refine mk_Tf_coin rfl ?_
    refine sx_Tf_coin ?_
    refine ⟨trivial, _, c_isBelow w X a 2, fun z Y hq => ?_⟩
    obtain ⟨rfl, rfl⟩ := hq
    refine sx_Tf_coin ?_
    refine ⟨fun q => ?_, fun q => ⟨trivial, CS.rf Y, by rw [if_neg (nif q)]⟩⟩
    rw [if_pos (pif q)]
    refine sx_Tf_coin ?_
    refine ⟨fun q2 => ?_, fun q2 => ?_⟩
    · have q2 : Y.1 1 8 ≠ 0 := q2
      rw [if_neg (by omega)]
      refine sx_Tf_coin ?_
      refine ⟨trivial, _, c_leftNow w h, fun z Y1 hq => ?_⟩
      obtain ⟨g1, g2, rfl⟩ := hq
      refine tx_Tf_coin 5 ?_
      have hJ := h.cs g1
      have r43 := g1.1 43 (by omega)
      have r0 := g1.2.1
      have L : ∀ j, j ≤ nM Y → ∀ (c s : Int), c = (j : Int) → s = cn Y a j → Go w K_Tf_coin 31 [some (.inr (.inr (6, 1))), some (.inl a), some (.inl ((bsN (RN Y 30).1 (nM Y) : Nat) : Int)), some (.inl s), some (.inl c)] [] Y1 (fun z Z => CS Y Z ∧ z = cn Y a (nM Y)) := by
        refine lp ?_
        intro j hj ih c s hc hs
        subst hc
        subst hs
        have hcnt : Y1.1 (Y1.2 0) 9 = (nM Y : Int) := by rw [hJ.2.2.1.2.1, r43]; exact hn.1
        refine sx_Tf_coin ?_
        refine ⟨hJ.b0, fun q => ?_, fun q => ?_⟩
        · have e : j = nM Y := by omega
          subst e
          refine sx_Tf_coin ?_
          exact ⟨trivial, g1, rfl⟩
        · have hjn : j < nM Y := by omega
          obtain ⟨-, e48, e49, -⟩ := hJ.2.2.1.2.2.2.2.1 j (by show j < (Y1.1 43 7).toNat; rw [r43]; exact hjn)
          rw [g1.1 48 (by omega)] at e48
          rw [g1.1 49 (by omega)] at e49
          have hr := cn_rng h a j (by omega)
          obtain ⟨-, -, hs9, -⟩ := h.2.2.1.2.2.2.1 j hjn
          refine ⟨trivial, _, c_isIn w Y1 (k := j) (bs512 (by omega)) (by omega), fun z Z2 hq => ?_⟩
          obtain ⟨rfl, rfl⟩ := hq
          refine sx_Tf_coin ?_
          refine ⟨fun q => ?_, fun q => ?_⟩
          · refine sx_Tf_coin ?_
            exact ih hjn _ _ (w1 rfl (by omega)) (by rw [cn_s, if_neg (fun z => nif q z.1)])
          · refine ⟨hJ.b0, (by omega), (by show _ < ((9 : Nat) : Int); omega), fun q3 => ?_, fun q3 => ?_⟩
            · have q3 : Z2.1 (Z2.2 0 + 2) j ≠ a := q3
              refine sx_Tf_coin ?_
              exact ih hjn _ _ (w1 rfl (by omega)) (by rw [cn_s, if_neg (fun z => q3 (by rw [e48]; exact z.2))])
            · have q3 : Z2.1 (Z2.2 0 + 2) j = a := q3
              refine ⟨hJ.b0, (by omega), (by show _ < ((9 : Nat) : Int); omega), ?_⟩
              exact ih hjn _ _ (w1 rfl (by omega)) (by
                show wr (cn Y a j + Z2.1 (Z2.2 0 + 3) j) = _
                rw [cn_s, if_pos ⟨pif q, by rw [← e48]; exact q3⟩, e49, wr_id (by omega) (by omega)])
      exact L 0 (Nat.zero_le _) 0 0 rfl rfl
    · have q2 : Y.1 1 8 = 0 := q2
      rw [if_pos (by omega)]
      exact ⟨trivial, CS.rf Y, rfl⟩
  · have hn := h.n
    unfold a_coin
    refine mk_Mo_coin rfl ?_
    refine sx_Mo_coin ?_
    refine ⟨trivial, _, mo_within w X a 0 1, fun z Y hq => ?_⟩
    obtain ⟨rfl, rfl⟩ := hq
    refine sx_Mo_coin ?_
    refine ⟨fun q => ?_, fun q => ⟨trivial, ME.rf Y, by rw [if_neg (fun z => nif q (by omega))]⟩⟩
    have h1 := pif q
    rw [if_pos (by omega)]
    refine sx_Mo_coin ?_
    refine ⟨trivial, _, mo_all w h, fun z Y2 hq => ?_⟩
    obtain ⟨rfl, rfl⟩ := hq
    refine sx_Mo_coin ?_
    refine ⟨fun q => ?_, fun q => ⟨trivial, ME.rf Y2, by rw [if_pos q]⟩⟩
    rw [if_neg q]
    refine sx_Mo_coin ?_
    refine ⟨trivial, _, mo_left w h, fun z Y1 hq => ?_⟩
    obtain ⟨g1, g2, rfl⟩ := hq
    refine tx_Mo_coin 5 ?_
    have r43 := g1.2 43 (by omega)
    have r48 := g1.2 48 (by omega)
    have r49 := g1.2 49 (by omega)
    have L : ∀ j, j ≤ nM Y2 → ∀ (c s : Int), c = (j : Int) → s = cn Y2 a j → Go w K_Mo_coin 32 [some (.inr (.inr (7, 43))), some (.inl a), some (.inl ((bsN (RN Y2 30).1 (nM Y2) : Nat) : Int)), some (.inl s), some (.inl c)] [] Y1 (fun z Z => ME Y2 Z ∧ z = cn Y2 a (nM Y2)) := by
      refine lp ?_
      intro j hj ih c s hc hs
      subst hc
      subst hs
      have hcnt : Y1.1 43 7 = (nM Y2 : Int) := by rw [r43]; exact hn.1
      refine sx_Mo_coin ?_
      refine ⟨fun q => ?_, fun q => ?_⟩
      · have e : j = nM Y2 := by omega
        subst e
        refine sx_Mo_coin ?_
        exact ⟨trivial, g1.me, rfl⟩
      · have hjn : j < nM Y2 := by omega
        have hr := cn_rng h a j (by omega)
        obtain ⟨-, -, hs9, -⟩ := h.2.2.1.2.2.2.1 j hjn
        have hb := bt1 (S := bsN (RN Y2 30).1 (nM Y2)) (k := j) (bs512 (by omega)) (by omega)
        have NX : ∀ s : Int, wr (cn Y2 a j + s) = cn Y2 a (j + 1) → Go w K_Mo_coin 74 [some (.inr (.inr (7, 43))), some (.inl a), some (.inl ((bsN (RN Y2 30).1 (nM Y2) : Nat) : Int)), some (.inl (cn Y2 a j)), some (.inl (j : Int))] [.inl s, .inl (cn Y2 a j)] Y1 (fun z Z => ME Y2 Z ∧ z = cn Y2 a (nM Y2)) := by
          intro s hs
          refine sx_Mo_coin ?_
          exact ih hjn _ _ (w1 rfl (by omega)) hs
        have NO : ¬ ((bsN (RN Y2 30).1 (nM Y2)).testBit j = true ∧ Y2.1 48 j = a) → Go w K_Mo_coin 73 [some (.inr (.inr (7, 43))), some (.inl a), some (.inl ((bsN (RN Y2 30).1 (nM Y2) : Nat) : Int)), some (.inl (cn Y2 a j)), some (.inl (j : Int))] [.inl (cn Y2 a j)] Y1 (fun z Z => ME Y2 Z ∧ z = cn Y2 a (nM Y2)) := by
          intro hno
          refine tx_Mo_coin 1 ?_
          exact NX 0 (by rw [cn_s, if_neg hno, Int.add_zero, wr_id (by omega) (by omega)])
        refine ⟨(by omega), (by omega), fun q => ?_, fun q => ?_⟩
        · have q : ia ((bsN (RN Y2 30).1 (nM Y2) : Nat) / 2 ^ j) 1 ≠ 1 := q
          exact NO (fun z => q (by rw [hb, if_pos z.1]))
        · have q : ia ((bsN (RN Y2 30).1 (nM Y2) : Nat) / 2 ^ j) 1 = 1 := q
          have q' : (bsN (RN Y2 30).1 (nM Y2)).testBit j = true := Decidable.byContradiction (fun z => by rw [hb, if_neg z] at q; cases q)
          refine ⟨(by omega), (by show _ < ((9 : Nat) : Int); omega), fun q3 => ?_, fun q3 => ?_⟩
          · have q3 : Y1.1 48 j ≠ a := q3
            rw [r48] at q3
            exact NO (fun z => q3 z.2)
          · have q3 : Y1.1 48 j = a := q3
            rw [r48] at q3
            refine ⟨(by omega), (by show _ < ((9 : Nat) : Int); omega), ?_⟩
            refine NX _ ?_
            show wr (cn Y2 a j + Y1.1 49 j) = _
            rw [r49, cn_s, if_pos ⟨q', q3⟩, wr_id (by omega) (by omega)]
    exact L 0 (Nat.zero_le _) 0 0 rfl rfl
/-! worth -/
def RA (X : XS) (ab : Int) : FS := run (DM X) (X.1 43 13) (SS X) ab 30
theorem RM.ra {X Y : XS} (h : RM X Y) (ab : Int) : RA Y ab = RA X ab := by unfold RA; rw [h.dm, h.ss, h 43 (by omega)]
def wthA (X : XS) (m : Nat) : Nat := pc (bsN (RN X 30).1 (nM X) &&& (511 - 2 ^ m))
def wthB (X : XS) (m : Nat) : Nat := pc (bsN (RA X (m : Int)).1 (nM X))
theorem and_lt {a b : Nat} (h : a < 512) : a &&& b < 512 := Nat.lt_of_le_of_lt Nat.and_le_left h
theorem wth_le {X : XS} (h : nM X ≤ 8) (m : Nat) : wthA X m ≤ 9 ∧ wthB X m ≤ 9 := ⟨pc_le _ (and_lt (bs512 (by omega))), pc_le _ (bs512 (by omega))⟩
def a_worth (a : Int) (X : XS) : Int := if 0 ≤ a ∧ a < X.1 43 7 then 100 + (wthB X a.toNat : Int) - (wthA X a.toNat : Int) else -1
theorem HM.u23 {D : FD} {X : XS} (h : HM D X) (z : Int) : HM D (up X.1 43 23 z, X.2) := by
  obtain ⟨h1, h2, h3, h4, h5⟩ := h
  refine ⟨?_, h2, fun m hm => ?_, fun m hm => ?_, fun m o hm ho => ?_⟩
  · simpa [up_g] using h1
  · simpa [up_g] using h3 m hm
  · simpa [up_g] using h4 m hm
  · simpa [up_g] using h5 m o hm ho
theorem SMo.u23 {D : FD} {X : XS} {S : List (Int × Int)} (h : SMo D X S) (z : Int) : SMo D (up X.1 43 23 z, X.2) S := by
  obtain ⟨n, un, h1, h2, h3, h4, h5, h6⟩ := h
  refine ⟨n, un, h1, h2, ?_, ?_, fun k hk => ?_, ?_⟩
  · simpa [up_g] using h3
  · simpa [up_g] using h4
  · simpa [up_g] using h5 k hk
  · rw [h6]; exact stl_congr (fun k hk => by simp [up_g])
theorem p_worth (w : WD) (a : Int) : PAIR w M_Tf_worth M_Mo_worth [.inl a] := by
  refine PAIR.ask (a_worth a) (fun X Y h => ?_) (fun X h => ?_) (fun X h => ?_)
  · unfold a_worth wthA wthB nM
    rw [h.rn, h.ra, h 43 (by omega)]
  · have hn := h.n
    have A := c_has w X (X.2 0) a
    rw [h.2.2.1.2.1] at A
    unfold a_worth
    refine mk_Tf_worth rfl ?_
    refine sx_Tf_worth ?_
    refine ⟨h.b0, trivial, _, A, fun z Y hq => ?_⟩
    obtain ⟨rfl, rfl⟩ := hq
    refine sx_Tf_worth ?_
    refine ⟨fun q => ?_, fun q => ⟨trivial, CS.rf Y, by rw [if_neg (nif q)]⟩⟩
    have h1 := pif q
    rw [if_pos h1]
    obtain ⟨k, rfl⟩ := Int.eq_ofNat_of_zero_le h1.1
    have hw := wth_le hn.2 k
    refine sx_Tf_worth ?_
    refine ⟨trivial, _, c_leftNow w h, fun z Y1 hq => ?_⟩
    obtain ⟨g1, g2, rfl⟩ := hq
    refine sx_Tf_worth ?_
    refine ⟨(by omega), (by omega), ?_⟩
    have e : ia ((bsN (RN Y 30).1 (nM Y) : Nat) : Int) (ix (wr (1 * 2 ^ k)) (-1)) = ((bsN (RN Y 30).1 (nM Y) &&& (511 - 2 ^ k) : Nat) : Int) := by rw [sh1 (by omega), bx1 (bs512 (by omega)) (by omega)]
    have B := c_bc w Y1 (x := bsN (RN Y 30).1 (nM Y) &&& (511 - 2 ^ k)) (and_lt (bs512 (by omega)))
    rw [← e] at B
    refine ⟨trivial, _, B, fun z Y2 hq => ?_⟩
    obtain ⟨rfl, rfl⟩ := hq
    have hJ := h.cs g1
    have C := c_run w (ab := (k : Int)) (law := Y2.1 43 13) hJ.hb hJ.law hJ.sc (last := 29) (by decide)
    rw [← hJ.2.2.2.1.1, g1.rm.dm, g1.rm.ss] at C
    refine sx_Tf_worth ?_
    refine ⟨hJ.b0, trivial, _, C, fun z Y3 hq => ?_⟩
    obtain ⟨g3, -, rfl⟩ := hq
    have e2 : bsN (run (DM Y) (Y2.1 1 9) (SS Y) (k : Int) 30).1 (dn (DM Y)) = bsN (RA Y (k : Int)).1 (nM Y) := by rw [hJ.2.2.2.1.1, g1.1 43 (by omega)]; rfl
    have B := c_bc w Y3 (x := bsN (RA Y (k : Int)).1 (nM Y)) (bs512 (by omega))
    rw [← e2] at B
    refine sx_Tf_worth ?_
    refine ⟨trivial, _, B, fun z Y4 hq => ?_⟩
    obtain ⟨rfl, rfl⟩ := hq
    refine sx_Tf_worth ?_
    refine ⟨trivial, g1.tr g3.cs, ?_⟩
    rw [e2]
    show wr (wr (100 + (wthB Y k : Int)) - (wthA Y k : Int)) = 100 + (wthB Y k : Int) - (wthA Y k : Int)
    rw [wr_id (z := 100 + (wthB Y k : Int)) (by omega) (by omega), wr_id (by omega) (by omega)]
  · have hn := h.n
    unfold a_worth
    refine mk_Mo_worth rfl ?_
    refine sx_Mo_worth ?_
    refine ⟨trivial, _, mo_isMan w X a, fun z Y hq => ?_⟩
    obtain ⟨rfl, rfl⟩ := hq
    refine sx_Mo_worth ?_
    refine ⟨fun q => ?_, fun q => ⟨trivial, ME.rf Y, by rw [if_neg (nif q)]⟩⟩
    have h1 := pif q
    rw [if_pos h1]
    obtain ⟨k, rfl⟩ := Int.eq_ofNat_of_zero_le h1.1
    have hw := wth_le hn.2 k
    refine sx_Mo_worth ?_
    refine ⟨trivial, _, mo_left w h, fun z Y1 hq => ?_⟩
    obtain ⟨g1, g2, rfl⟩ := hq
    refine sx_Mo_worth ?_
    refine ⟨(by omega), (by omega), ?_⟩
    have e : ia ((bsN (RN Y 30).1 (nM Y) : Nat) : Int) (ix (wr (1 * 2 ^ k)) (-1)) = ((bsN (RN Y 30).1 (nM Y) &&& (511 - 2 ^ k) : Nat) : Int) := by rw [sh1 (by omega), bx1 (bs512 (by omega)) (by omega)]
    have B := mo_size w Y1 (x := bsN (RN Y 30).1 (nM Y) &&& (511 - 2 ^ k)) (and_lt (bs512 (by omega)))
    rw [← e] at B
    refine ⟨trivial, _, B, fun z Y2 hq => ?_⟩
    obtain ⟨rfl, rfl⟩ := hq
    have hJ := h.me g1.me
    have C := mo_leftNow w (law := Y2.1 43 13) (ab := (k : Int)) (hJ.hm.u23 (k : Int)) (hJ.smo.u23 (k : Int)) (by simp [up_g]) (by simp [up_g])
    have ed : DM Y2 = DM Y := by unfold DM; rw [g1.2 43 (by omega), g1.2 47 (by omega), g1.2 48 (by omega), g1.2 49 (by omega), g1.2 50 (by omega), g1.2 51 (by omega)]
    have es : SS Y2 = SS Y := by unfold SS nS; rw [g1.2 43 (by omega), g1.2 53 (by omega), g1.2 54 (by omega)]
    rw [ed, es, g1.2 43 (by omega)] at C
    refine sx_Mo_worth ?_
    refine ⟨trivial, _, C, fun z Y3 hq => ?_⟩
    obtain ⟨g3, -, rfl⟩ := hq
    have B := mo_size w Y3 (x := bsN (RA Y (k : Int)).1 (nM Y)) (bs512 (by omega))
    refine sx_Mo_worth ?_
    refine ⟨trivial, _, B, fun z Y4 hq => ?_⟩
    obtain ⟨rfl, rfl⟩ := hq
    refine sx_Mo_worth ?_
    refine ⟨trivial, ⟨fun i hi => ?_, g3.1.trans g1.1, fun j hj => ?_, fun j hj => ?_⟩, ?_⟩
    · show up Y4.1 43 23 _ i = _
      rw [up_ne (by omega), g3.2 i (by omega)]
      show up Y2.1 43 23 _ i = _
      rw [up_ne (by omega), g1.2 i (by omega)]
    · by_cases e : j = 23
      · subst e
        simp [up_g]
        exact h.2.2.2.2.2.2.2.1.symm
      · have := g3.2 43 (by omega)
        simp [up_g, e, this]
        rw [g1.2 43 (by omega)]
    · have a1 := g3.2 53 (by omega)
      have a2 := g3.2 54 (by omega)
      have b1 := g1.2 53 (by omega)
      have b2 := g1.2 54 (by omega)
      simp [up_g, a1, a2, b1, b2]
    · show wr (wr ((wthB Y k : Int) - (wthA Y k : Int)) + 100) = 100 + (wthB Y k : Int) - (wthA Y k : Int)
      rw [wr_id (z := (wthB Y k : Int) - (wthA Y k : Int)) (by omega) (by omega), wr_id (by omega) (by omega)]
      omega
