/-! ===== cull ===== -/
def onL (S : Nat) : Nat → List (Int × Int)
  | 0 => []
  | k + 1 => if S.testBit k = true then onL S k ++ [((k : Int), 0)] else onL S k
theorem onL_s (S k : Nat) : onL S (k + 1) = if S.testBit k = true then onL S k ++ [((k : Int), 0)] else onL S k := rfl
theorem onL_in (S : Nat) : ∀ k, ∀ q ∈ onL S k, 0 ≤ q.1 ∧ q.1 < (k : Int)
  | 0, q, hq => by cases hq
  | k + 1, q, hq => by
    rw [onL_s] at hq
    by_cases e : S.testBit k = true
    · rw [if_pos e] at hq
      rcases List.mem_append.mp hq with hq | hq
      · have := onL_in S k q hq; omega
      · rw [List.mem_singleton.mp hq]
        show 0 ≤ (k : Int) ∧ (k : Int) < _
        omega
    · rw [if_neg e] at hq
      have := onL_in S k q hq; omega
theorem p2k' : ∀ n : Nat, n < 9 → wr (1 * 2 ^ n) = ((2 ^ n : Nat) : Int) ∧ 2 ^ n ≤ 256 := by decide +kernel
theorem c_lwso (w : WD) {X Y : XS} (h : J X) (hC0 : CS X Y) {S : Nat} (hS : S < 512) : MS w M_Tf_leftWithStonesOn [.inr (.inr (6, 1)), .inl (S : Int)] Y (fun z Z => CS X Z ∧ z = ((bsN (RT X (SS X ++ onL S (nM X))).1 (nM X) : Nat) : Int)) := by
  have hn := h.n
  have hns := h.ns
  have hJ0 := h.cs hC0
  have es : nS Y = nS X := by unfold nS; rw [hC0.1 43 (by omega)]
  refine mk_Tf_leftWithStonesOn rfl ?_
  refine sx_Tf_leftWithStonesOn ?_
  refine ⟨trivial, _, c_take w hJ0, fun _ Y1 hq => ?_⟩
  obtain ⟨g1, g2⟩ := hq
  rw [hC0.rm.ss, es] at g2
  have g1 := hC0.tr g1
  refine tx_Tf_leftWithStonesOn 2 ?_
  have L : ∀ j, j ≤ nM X → ∀ (c : Int) (Z : XS) (n : Nat), c = (j : Int) → CS X Z → TL (SS X ++ onL S j) Z n → n ≤ nS X + j → Go w K_Tf_leftWithStonesOn 13 [some (.inr (.inr (6, 1))), some (.inl (S : Int)), some (.inl c)] [] Z (fun z Z => CS X Z ∧ z = ((bsN (RT X (SS X ++ onL S (nM X))).1 (nM X) : Nat) : Int)) := by
    refine lp ?_
    intro j hj ih c Z n hc hC hT hl
    subst hc
    have hJ := h.cs hC
    have hcnt : Z.1 (Z.2 0) 9 = (nM X : Int) := by rw [hJ.2.2.1.2.1, hC.1 43 (by omega)]; exact hn.1
    refine sx_Tf_leftWithStonesOn ?_
    refine ⟨hJ.b0, fun q => ?_, fun q => ?_⟩
    · have e : j = nM X := by omega
      subst e
      have A := c_trial w h hC hT (fun q hq => by
        rcases List.mem_append.mp hq with hq | hq
        · exact h.sin q hq
        · exact onL_in S (nM X) q hq)
      refine sx_Tf_leftWithStonesOn ?_
      refine ⟨hJ.b0, trivial, _, A, fun z Z4 hq => ?_⟩
      refine sx_Tf_leftWithStonesOn ?_
      exact ⟨trivial, hq.1, hq.2.2⟩
    · have hjn : j < nM X := by omega
      refine ⟨trivial, _, c_isIn w Z (k := j) hS (by omega), fun z Z1 hq => ?_⟩
      obtain ⟨rfl, rfl⟩ := hq
      refine sx_Tf_leftWithStonesOn ?_
      refine ⟨fun q => ?_, fun q => ?_⟩
      · refine sx_Tf_leftWithStonesOn ?_
        exact ih hjn _ _ n (w1 rfl (by omega)) hC (by rw [onL_s, if_neg (nif q)]; exact hT) (by omega)
      · refine ⟨trivial, _, c_tadd w hT (show n < 30 by omega) (j : Int) 0, fun _ Z2 hq => ?_⟩
        obtain ⟨g3, g4⟩ := hq
        refine sx_Tf_leftWithStonesOn ?_
        exact ih hjn _ _ (n + 1) (w1 rfl (by omega)) (hC.tr g3) (by rw [onL_s, if_pos (pif q), ← List.append_assoc]; exact g4) (by omega)
  exact L 0 (Nat.zero_le _) 0 Y1 (nS X) rfl g1 (by rw [show SS X ++ onL S 0 = SS X from List.append_nil _]; exact g2) (Nat.le_refl _)
def lfo (X : XS) (k : Nat) : Nat := pc (bsN (RT X (SS X ++ onL k (nM X))).1 (nM X))
def cu (X : XS) (most : Int) : Nat → Int
  | 0 => -9
  | k + 1 => if (cu X most k = -9 ∨ pc k < pc (cu X most k).toNat) ∧ (lfo X k : Int) ≤ most then (k : Int) else cu X most k
theorem cu_s (X : XS) (most : Int) (k : Nat) : cu X most (k + 1) = if (cu X most k = -9 ∨ pc k < pc (cu X most k).toNat) ∧ (lfo X k : Int) ≤ most then (k : Int) else cu X most k := rfl
theorem cu_rng (X : XS) (most : Int) : ∀ k, cu X most k = -9 ∨ (0 ≤ cu X most k ∧ cu X most k < (k : Int))
  | 0 => Or.inl rfl
  | k + 1 => by
    have := cu_rng X most k
    rw [cu_s]
    split
    · right; omega
    · omega
def fw (b : Int) : Int := if b = -9 then 9 else (pc b.toNat : Int)
theorem fw_lt {b : Int} {k : Nat} (hk : k < 256) : ((pc k : Int) < fw b) ↔ (b = -9 ∨ pc k < pc b.toNat) := by
  have := pc_le8' k hk
  unfold fw
  split
  · rename_i e; exact ⟨fun _ => Or.inl e, fun _ => by omega⟩
  · rename_i e; exact ⟨fun q => Or.inr (by omega), fun q => by have := q.resolve_left e; omega⟩
theorem rm_cu {X Y : XS} (h : RM X Y) (most : Int) : ∀ k : Nat, cu Y most k = cu X most k := by
  intro k
  induction k with
  | zero => rfl
  | succ k ih =>
    rw [cu_s, cu_s, ih]
    unfold lfo nM
    rw [h.rt, h.ss, h 43 (by omega)]
def a_cull (a : Int) (X : XS) : Int := if 0 ≤ a ∧ a ≤ 8 then (if X.1 43 5 * X.1 43 6 = 0 then -3 else cu X a (2 ^ nM X)) else -2
theorem p_cull (w : WD) (a : Int) : PAIR w M_Tf_cull M_Mo_cull [.inl a] := by
  refine PAIR.ask (a_cull a) (fun X Y h => ?_) (fun X h => ?_) (fun X h => ?_)
  · have e : nM Y = nM X := by unfold nM; rw [h 43 (by omega)]
    unfold a_cull
    rw [rm_cu h, e, h 43 (by omega)]
  · have hal := h.all
    have hn := h.n
    obtain ⟨p2, p3⟩ := p2k' (nM X) (by omega)
    unfold a_cull
    refine mk_Tf_cull rfl ?_
    refine sx_Tf_cull ?_
    refine ⟨trivial, _, c_isUpTo w X a 8, fun z Y hq => ?_⟩
    obtain ⟨rfl, rfl⟩ := hq
    refine sx_Tf_cull ?_
    refine ⟨fun q => ?_, fun q => ⟨trivial, CS.rf Y, by rw [if_neg (nif q)]⟩⟩
    rw [if_pos (pif q)]
    refine sx_Tf_cull ?_
    refine ⟨fun q2 => ?_, fun q2 => ?_⟩
    · have q2 : Y.1 1 8 ≠ 0 := q2
      rw [if_neg (show ¬ Y.1 43 5 * Y.1 43 6 = 0 by omega)]
      refine tx_Tf_cull 6 ?_
      have L : ∀ j : Nat, j ≤ 2 ^ nM Y → ∀ (c : Int) (Z : XS) (y : Option V), c = (j : Int) → CS Y Z → Go w K_Tf_cull 31 [some (.inr (.inr (6, 1))), some (.inl a), some (.inl (cu Y a j)), some (.inl (fw (cu Y a j))), some (.inl c), y] [] Z (fun z Z => CS Y Z ∧ z = cu Y a (2 ^ nM Y)) := by
        refine lp ?_
        intro j hj ih c Z y hc hC
        subst hc
        have hJ := h.cs hC
        have hcnt : Z.1 (Z.2 0) 9 = (nM Y : Int) := by rw [hJ.2.2.1.2.1, hC.1 43 (by omega)]; exact hn.1
        have e2 : wr (1 * 2 ^ (Z.1 (Z.2 0) 9).toNat) = ((2 ^ nM Y : Nat) : Int) := by rw [hcnt, Int.toNat_natCast]; exact p2
        refine sx_Tf_cull ?_
        refine ⟨hJ.b0, by omega, by omega, fun q => ?_, fun q => ?_⟩
        · have q : wr (1 * 2 ^ (Z.1 (Z.2 0) 9).toNat) ≤ (j : Int) := q
          have e : j = 2 ^ nM Y := by omega
          refine sx_Tf_cull ?_
          exact ⟨trivial, hC, by rw [e]⟩
        · have q : (j : Int) < wr (1 * 2 ^ (Z.1 (Z.2 0) 9).toNat) := q
          have hjn : j < 2 ^ nM Y := by omega
          refine ⟨trivial, _, c_bc w Z (x := j) (by omega), fun z Z1 hq => ?_⟩
          obtain ⟨rfl, rfl⟩ := hq
          have NX : ∀ (Z2 : XS) (b : Int), CS Y Z2 → b = cu Y a (j + 1) → Go w K_Tf_cull 77 [some (.inr (.inr (6, 1))), some (.inl a), some (.inl b), some (.inl (fw b)), some (.inl (j : Int)), some (.inl (pc j : Int))] [] Z2 (fun z Z => CS Y Z ∧ z = cu Y a (2 ^ nM Y)) := by
            intro Z2 b g hb
            subst hb
            refine sx_Tf_cull ?_
            exact ih hjn _ _ _ (w1 rfl (by omega)) g
          refine tx_Tf_cull 4 ?_
          refine ⟨fun q => ?_, fun q => ?_⟩
          · have q : fw (cu Y a j) ≤ (pc j : Int) := q
            exact NX Z1 (cu Y a j) hC (by rw [cu_s, if_neg (fun z => absurd ((fw_lt (by omega)).mpr z.1) (by omega))])
          · have q : (pc j : Int) < fw (cu Y a j) := q
            have q' := (fw_lt (show j < 256 by omega)).mp q
            refine sx_Tf_cull ?_
            refine ⟨trivial, _, c_lwso w h hC (S := j) (by omega), fun z Z2 hq => ?_⟩
            obtain ⟨g1, rfl⟩ := hq
            refine sx_Tf_cull ?_
            refine ⟨trivial, _, c_bc w Z2 (bs512 (by omega)), fun z Z3 hq => ?_⟩
            obtain ⟨rfl, rfl⟩ := hq
            refine tx_Tf_cull 2 ?_
            refine ⟨fun q3 => ?_, fun q3 => ?_⟩
            · have q3 : a < (lfo Y j : Int) := q3
              exact NX Z3 (cu Y a j) g1 (by rw [cu_s, if_neg (fun z => absurd z.2 (by omega))])
            · have q3 : (lfo Y j : Int) ≤ a := q3
              refine tx_Tf_cull 4 ?_
              have := NX Z3 (j : Int) g1 (by rw [cu_s, if_pos ⟨q', q3⟩])
              rw [show fw (j : Int) = (pc j : Int) from if_neg (by omega)] at this
              exact this
      exact L 0 (Nat.zero_le _) 0 Y none rfl (CS.rf Y)
    · have q2 : Y.1 1 8 = 0 := q2
      rw [if_pos (show Y.1 43 5 * Y.1 43 6 = 0 by omega)]
      exact ⟨trivial, CS.rf Y, rfl⟩
  · have hn := h.n
    have hns := h.ns
    obtain ⟨p2, p3⟩ := p2k' (nM X) (by omega)
    unfold a_cull
    refine mk_Mo_cull rfl ?_
    refine sx_Mo_cull ?_
    refine ⟨trivial, _, mo_within w X a 0 8, fun z Y hq => ?_⟩
    obtain ⟨rfl, rfl⟩ := hq
    refine sx_Mo_cull ?_
    refine ⟨fun q => ?_, fun q => ⟨trivial, ME.rf Y, by rw [if_neg (nif q)]⟩⟩
    rw [if_pos (pif q)]
    refine sx_Mo_cull ?_
    refine ⟨trivial, _, mo_all w h, fun z Y2 hq => ?_⟩
    obtain ⟨rfl, rfl⟩ := hq
    refine sx_Mo_cull ?_
    refine ⟨fun q => ?_, fun q => ⟨trivial, ME.rf Y2, by rw [if_pos q]⟩⟩
    rw [if_neg q]
    refine tx_Mo_cull 7 ?_
    have L : ∀ j : Nat, j ≤ 2 ^ nM Y2 → ∀ (c : Int) (Z : XS) (y : Option V), c = (j : Int) → MEn (nS Y2) Y2 Z → Z.1 43 19 = (nS Y2 : Int) → Go w K_Mo_cull 34 [some (.inr (.inr (7, 43))), some (.inl a), some (.inl (Y2.1 43 19)), some (.inl (cu Y2 a j)), some (.inl c), y] [] Z (fun z Z => ME Y2 Z ∧ z = cu Y2 a (2 ^ nM Y2)) := by
      refine lp ?_
      intro j hj ih c Z y hc hM hs
      subst hc
      have hcnt : Z.1 43 7 = (nM Y2 : Int) := by rw [hM.2.2.1 7 (by omega)]; exact hn.1
      have e2 : wr (1 * 2 ^ (Z.1 43 7).toNat) = ((2 ^ nM Y2 : Nat) : Int) := by rw [hcnt, Int.toNat_natCast]; exact p2
      have hr := cu_rng Y2 a j
      refine sx_Mo_cull ?_
      refine ⟨by omega, by omega, fun q => ?_, fun q => ?_⟩
      · have q : wr (1 * 2 ^ (Z.1 43 7).toNat) ≤ (j : Int) := q
        have e : j = 2 ^ nM Y2 := by omega
        refine sx_Mo_cull ?_
        exact ⟨trivial, hM.me (by rw [hs]; exact hns.1.symm), by rw [e]⟩
      · have q : (j : Int) < wr (1 * 2 ^ (Z.1 43 7).toNat) := q
        have hjn : j < 2 ^ nM Y2 := by omega
        have hj5 : j < 512 := by omega
        have NX : ∀ (Z2 : XS) (b : Int) (y : Option V), MEn (nS Y2) Y2 Z2 → Z2.1 43 19 = (nS Y2 : Int) → b = cu Y2 a (j + 1) → Go w K_Mo_cull 122 [some (.inr (.inr (7, 43))), some (.inl a), some (.inl (Y2.1 43 19)), some (.inl b), some (.inl (j : Int)), y] [] Z2 (fun z Z => ME Y2 Z ∧ z = cu Y2 a (2 ^ nM Y2)) := by
          intro Z2 b y g g' hb
          subst hb
          refine sx_Mo_cull ?_
          exact ih hjn _ _ _ (w1 rfl (by omega)) g g'
        have TR : (cu Y2 a j = -9 ∨ pc j < pc (cu Y2 a j).toNat) → Go w K_Mo_cull 63 [some (.inr (.inr (7, 43))), some (.inl a), some (.inl (Y2.1 43 19)), some (.inl (cu Y2 a j)), some (.inl (j : Int)), y] [] Z (fun z Z => ME Y2 Z ∧ z = cu Y2 a (2 ^ nM Y2)) := by
          intro hc
          refine tx_Mo_cull 2 ?_
          have I : ∀ i, i ≤ nM Y2 → ∀ (c : Int) (Z : XS) (n : Nat), c = (i : Int) → MEn (nS Y2) Y2 Z → SML (DM Y2) Z (SS Y2 ++ onL j i) n → nS Y2 ≤ n → n ≤ nS Y2 + i → Go w K_Mo_cull 66 [some (.inr (.inr (7, 43))), some (.inl a), some (.inl (Y2.1 43 19)), some (.inl (cu Y2 a j)), some (.inl (j : Int)), some (.inl c)] [] Z (fun z Z => ME Y2 Z ∧ z = cu Y2 a (2 ^ nM Y2)) := by
            refine lp ?_
            intro i hi ii c Z n hc1 hM hT hl1 hl2
            subst hc1
            have hcnt : Z.1 43 7 = (nM Y2 : Int) := by rw [hM.2.2.1 7 (by omega)]; exact hn.1
            refine sx_Mo_cull ?_
            refine ⟨fun q => ?_, fun q => ?_⟩
            · have e : i = nM Y2 := by omega
              subst e
              have A := mo_leftNow w (h.hm.men hM) hT.smo (law := Y2.1 43 13) (ab := -9) (hM.2.2.1 13 (by omega)) ((hM.2.2.1 23 (by omega)).trans h.2.2.2.2.2.2.2.1)
              refine sx_Mo_cull ?_
              refine ⟨trivial, _, A, fun z Z1 hq => ?_⟩
              obtain ⟨g1, -, rfl⟩ := hq
              refine sx_Mo_cull ?_
              refine ⟨trivial, _, mo_size w Z1 (bs512 (show nM Y2 ≤ 9 by omega)), fun z Z2 hq => ?_⟩
              obtain ⟨rfl, rfl⟩ := hq
              have g2 : MEn (nS Y2) Y2 (up Z2.1 43 19 (Y2.1 43 19), Z2.2) := by
                refine (hM.tr (g1.men (nS Y2)) (Nat.le_refl _)).tr (k := nS Y2) ⟨fun i hi => ?_, rfl, fun k hk => ?_, fun k hk => ?_⟩ (Nat.le_refl _)
                · show up Z2.1 43 19 (Y2.1 43 19) i = Z2.1 i
                  exact up_ne (by omega)
                · have : k ≠ 19 := by omega
                  simp [up_g, this]
                · simp [up_g]
              have MID : ∀ b : Int, b = cu Y2 a (j + 1) → Go w K_Mo_cull 116 [some (.inr (.inr (7, 43))), some (.inl a), some (.inl (Y2.1 43 19)), some (.inl (cu Y2 a j)), some (.inl (j : Int)), some (.inl (nM Y2 : Int))] [.inl b] Z2 (fun z Z => ME Y2 Z ∧ z = cu Y2 a (2 ^ nM Y2)) := by
                intro b hb
                refine tx_Mo_cull 4 ?_
                exact NX _ b _ g2 (show up Z2.1 43 19 (Y2.1 43 19) 43 19 = (nS Y2 : Int) by rw [up_row, u1_s]; exact hns.1) hb
              refine tx_Mo_cull 2 ?_
              refine ⟨fun q3 => ?_, fun q3 => ?_⟩
              · have q3 : a < (lfo Y2 j : Int) := q3
                refine tx_Mo_cull 1 ?_
                exact MID _ (by rw [cu_s, if_neg (fun z => absurd z.2 (by omega))])
              · have q3 : (lfo Y2 j : Int) ≤ a := q3
                refine sx_Mo_cull ?_
                exact MID _ (by rw [cu_s, if_pos ⟨hc, q3⟩])
            · have hin : i < nM Y2 := by omega
              have hb := bt1 (S := j) (k := i) hj5 (by omega)
              refine ⟨(by omega), (by omega), fun q => ?_, fun q => ?_⟩
              · have q : ia ((j : Int) / 2 ^ i) 1 ≠ 1 := q
                refine sx_Mo_cull ?_
                exact ii hin _ _ n (w1 rfl (by omega)) hM (by rw [onL_s, if_neg (fun z => q (by rw [hb, if_pos z]))]; exact hT) hl1 (by omega)
              · have q : ia ((j : Int) / 2 ^ i) 1 = 1 := q
                have q' : j.testBit i = true := Decidable.byContradiction (fun z => by rw [hb, if_neg z] at q; cases q)
                refine ⟨trivial, _, mo_layS w hT (show n < 31 by omega) (a := (i : Int)) (b := 0) ⟨(by omega), by show (i : Int) < (nM Y2 : Int); omega⟩, fun _ Z1 hq => ?_⟩
                obtain ⟨g1, g2⟩ := hq
                refine sx_Mo_cull ?_
                exact ii hin _ _ (n + 1) (w1 rfl (by omega)) (hM.tr g1 hl1) (by rw [onL_s, if_pos q', ← List.append_assoc]; exact g2) (by omega) (by omega)
          exact I 0 (Nat.zero_le _) 0 Z (nS Y2) rfl hM (by rw [show SS Y2 ++ onL j 0 = SS Y2 from List.append_nil _]; exact h.sml.men hM hs) (Nat.le_refl _) (Nat.le_refl _)
        refine ⟨fun q3 => TR (Or.inl q3), fun q3 => ?_⟩
        have q3 : cu Y2 a j ≠ -9 := q3
        refine ⟨trivial, _, mo_size w Z (x := j) hj5, fun z Z1 hq => ?_⟩
        obtain ⟨rfl, rfl⟩ := hq
        have B := mo_size w Z1 (x := (cu Y2 a j).toNat) (by omega)
        rw [Int.toNat_of_nonneg (by omega)] at B
        refine sx_Mo_cull ?_
        refine ⟨trivial, _, B, fun z Z2 hq => ?_⟩
        obtain ⟨rfl, rfl⟩ := hq
        refine tx_Mo_cull 1 ?_
        refine ⟨fun q4 => ?_, fun q4 => ?_⟩
        · have q4 : (pc (cu Y2 a j).toNat : Int) ≤ (pc j : Int) := q4
          exact NX Z2 (cu Y2 a j) _ hM hs (by rw [cu_s, if_neg (fun z => by rcases z.1 with z | z <;> omega)])
        · have q4 : (pc j : Int) < (pc (cu Y2 a j).toNat : Int) := q4
          exact TR (Or.inr (by omega))
    exact L 0 (Nat.zero_le _) 0 Y2 none rfl (MEn.rf _ Y2) hns.1
