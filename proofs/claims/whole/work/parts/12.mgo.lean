/-! ===== the reference's minutes ===== -/
def stl (on at_ : Nat → Int) (mask : Nat) : Nat → List (Int × Int)
  | 0 => []
  | k + 1 => stl on at_ mask k ++ (if mask.testBit k = true then [] else [(on k, at_ k)])
theorem stl_s (on at_ : Nat → Int) (mask k : Nat) : stl on at_ mask (k + 1) = stl on at_ mask k ++ (if mask.testBit k = true then [] else [(on k, at_ k)]) := rfl
theorem stl_congr {on at_ on' at' : Nat → Int} {mask : Nat} : ∀ {k : Nat}, (∀ j, j < k → on j = on' j ∧ at_ j = at' j) → stl on at_ mask k = stl on' at' mask k
  | 0, _ => rfl
  | k + 1, h => by rw [stl_s, stl_s, stl_congr (fun j hj => h j (by omega)), (h k (by omega)).1, (h k (by omega)).2]
/-- the stones that the reference's rows hold -/
def SMo (D : FD) (X : XS) (S : List (Int × Int)) : Prop := ∃ ns mask : Nat, ns ≤ 31 ∧ mask < 64 ∧ X.1 43 19 = (ns : Int) ∧ X.1 43 22 = (mask : Int) ∧ (∀ k, k < ns → 0 ≤ X.1 53 k ∧ X.1 53 k < (dn D : Int)) ∧ S = stl (X.1 53) (X.1 54) mask ns
theorem mo_goTo (w : WD) {D : FD} {X : XS} {S : List (Int × Int)} {law ab : Int} (hD : HM D X) (hS : SMo D X S) (hl : X.1 43 13 = law) (ha : X.1 43 23 = ab) {last : Nat} (hlast : last < 30) : MS w M_Mo_goTo [.inr (.inr (7, 43)), .inl (last : Int)] X (fun _ Y => MF X Y ∧ FM D (run D law S ab (last + 1)) Y) := by
  have h9 := hD.n9
  obtain ⟨ns, mask, s1, s2, s3, s4, s5, s6⟩ := hS
  refine mk_Mo_goTo rfl ?_
  refine sx_Mo_goTo ?_
  refine ⟨trivial, _, mo_begin w D X ab hD ha, fun _ Y hq => ?_⟩
  obtain ⟨hM0, hF0⟩ := hq
  refine tx_Mo_goTo 2 ?_
  have L : ∀ k, k ≤ last + 1 → ∀ (c : Int) (Y : XS), c = (k : Int) → MF X Y → FM D (run D law S ab k) Y → Go w K_Mo_goTo 6 [some (.inr (.inr (7, 43))), some (.inl (last : Int)), some (.inl c), none] [] Y (fun _ Y => MF X Y ∧ FM D (run D law S ab (last + 1)) Y) := by
    refine lp ?_
    intro k hk ih c Y hc hM hF
    subst hc
    have hWk := run_wf D law S ab k
    refine tx_Mo_goTo 5 ?_
    refine ⟨fun h => ?_, fun h => ?_⟩
    · have e : k = last + 1 := by omega
      subst e
      refine sx_Mo_goTo ?_
      exact ⟨hM, hF⟩
    · have hkl : k < last + 1 := by omega
      generalize hG : run D law S ab k = F at hF hWk
      -- the turns
      have L3 : ∀ (F1 F2 : FS), F1 = mst1 D law S (k : Int) F → F2 = (fUp F1.1 (stkA D F1.2.1 F1.2.2.1 (dn D)), fFoe2 (fUp F1.1 (stkA D F1.2.1 F1.2.2.1 (dn D))) (fFoe F1.1 (stkA D F1.2.1 F1.2.2.1 (dn D)) F1.2.1), stkA D F1.2.1 F1.2.2.1 (dn D), fFell F1.1 (stkA D F1.2.1 F1.2.2.1 (dn D)) F1.2.2.2 (k : Int)) → WF D F2 → ∀ j, j ≤ dn D → ∀ (c : Int) (Y : XS), c = (j : Int) → MF X Y → FM D (F2.1, fun q => if q < j then fTrn D F2.1 F1.2.1 F2.2.1 q else F2.2.1 q, F2.2.2.1, F2.2.2.2) Y → SB D F1.2.1 Y → Go w K_Mo_goTo 69 [some (.inr (.inr (7, 43))), some (.inl (last : Int)), some (.inl (k : Int)), some (.inl c)] [] Y (fun _ Y => MF X Y ∧ FM D (run D law S ab (last + 1)) Y) := by
        intro F1 F2 e1 e2 hW2
        refine lp ?_
        intro j hj ih3 c Y hc hM hF hSB
        subst hc
        have hD' := hD.mf hM
        have hn : Y.1 43 7 = (dn D : Int) := hD'.1
        refine sx_Mo_goTo ?_
        refine ⟨fun h3 => ?_, fun h3 => ?_⟩
        · have e : j = dn D := by omega
          subst e
          refine sx_Mo_goTo ?_
          refine go_sub (lo' := [some (.inr (.inr (7, 43))), some (.inl (last : Int)), some (.inl (wr ((k : Int) + 1))), none]) ⟨rfl, rfl, rfl, trivial⟩ ?_
          refine ih hkl _ _ (w1 rfl (by omega)) hM (fun q hq => ?_)
          have := hF q hq
          dsimp only at this
          rw [if_pos hq] at this
          have e3 : run D law S ab (k + 1) = mst2 D (k : Int) F1 := by rw [e1, ← hG]; rfl
          rw [e3]
          rw [e2] at this
          exact this
        · have hjn : j < dn D := by omega
          have hWj : WF D (F2.1, fun q => if q < j then fTrn D F2.1 F1.2.1 F2.2.1 q else F2.2.1 q, F2.2.2.1, F2.2.2.2) := by
            refine ⟨hW2.1, fun q hq => ?_⟩
            dsimp only
            split
            · exact fTrn_fr hW2.2 q hq
            · exact hW2.2 q hq
          refine ⟨trivial, _, mo_turn w hD' hF hWj hSB hjn, fun _ Y' hq => ?_⟩
          obtain ⟨g1, g2, g3⟩ := hq
          refine sx_Mo_goTo ?_
          refine ih3 hjn _ _ (w1 rfl (by omega)) (hM.tr g1) (fun q hq => ?_) (fun f hf => by rw [g3]; exact hSB f hf)
          have := g2 q hq
          dsimp only at this ⊢
          by_cases e : q = j
          · subst e
            rw [u1_s] at this
            rw [if_pos (Nat.lt_succ_self q)]
            refine ⟨this.1, ?_, this.2.2.1, this.2.2.2⟩
            rw [this.2.1]
            unfold fTrn
            simp only [Nat.lt_irrefl, if_false]
          · rw [u1_n e] at this
            have e4 : (q < j + 1) = (q < j) := by apply propext; omega
            simp only [e4]
            exact this
      -- the stones
      have L1 : ∀ j, j ≤ ns → ∀ (c : Int) (Y : XS), c = (j : Int) → MF X Y → FM D (F.1, wkL D law F.1 (k : Int) (stl (X.1 53) (X.1 54) mask j) F.2.1, F.2.2.1, F.2.2.2) Y → Go w K_Mo_goTo 13 [some (.inr (.inr (7, 43))), some (.inl (last : Int)), some (.inl (k : Int)), some (.inl c)] [] Y (fun _ Y => MF X Y ∧ FM D (run D law S ab (last + 1)) Y) := by
        refine lp ?_
        intro j hj ih1 c Y hc hM hF
        subst hc
        have hD' := hD.mf hM
        have r43 := hM.2 43 (by omega)
        have r53 := hM.2 53 (by omega)
        have r54 := hM.2 54 (by omega)
        have hns : Y.1 43 19 = (ns : Int) := by rw [r43]; exact s3
        have hmk : Y.1 43 22 = (mask : Int) := by rw [r43]; exact s4
        have hWj : WF D (F.1, wkL D law F.1 (k : Int) (stl (X.1 53) (X.1 54) mask j) F.2.1, F.2.2.1, F.2.2.2) := ⟨hWk.1, wkL_fr _ _ hWk.2⟩
        refine sx_Mo_goTo ?_
        refine ⟨fun h3 => ?_, fun h3 => ?_⟩
        · have e : j = ns := by omega
          subst e
          rw [← s6] at hF hWj
          refine sx_Mo_goTo ?_
          refine ⟨trivial, _, mo_strike w hD' hF hWj, fun _ Y1 hq => ?_⟩
          obtain ⟨g1, g2, g3⟩ := hq
          have hM1 := hM.tr g1
          refine sx_Mo_goTo ?_
          have hW1 : WF D (F.1, wkL D law F.1 (k : Int) S F.2.1, stkA D (wkL D law F.1 (k : Int) S F.2.1) F.2.2.1 (dn D), F.2.2.2) := ⟨hWj.1, hWj.2⟩
          refine ⟨trivial, _, mo_fall w (hD.mf hM1) g2 hW1 (mn := (k : Int)), fun _ Y2 hq => ?_⟩
          obtain ⟨g4, g5, g6⟩ := hq
          refine tx_Mo_goTo 2 ?_
          refine L3 (mst1 D law S (k : Int) F) _ rfl rfl ⟨fUp_u hWj.1, fFoe2_fr (fFoe_fr hWj.2)⟩ 0 (Nat.zero_le _) 0 Y2 rfl (hM1.tr g4) (fun q hq => ?_) (fun f hf => by rw [g6]; exact g3 f hf)
          have := g5 q hq
          dsimp only at this ⊢
          simp only [Nat.not_lt_zero, if_false]
          exact this
        · have hjn : j < ns := by omega
          have NX : ∀ Y' : XS, MF X Y' → FM D (F.1, wkL D law F.1 (k : Int) (stl (X.1 53) (X.1 54) mask (j + 1)) F.2.1, F.2.2.1, F.2.2.2) Y' → Go w K_Mo_goTo 52 [some (.inr (.inr (7, 43))), some (.inl (last : Int)), some (.inl (k : Int)), some (.inl (j : Int))] [] Y' (fun _ Y => MF X Y ∧ FM D (run D law S ab (last + 1)) Y) := by
            intro Y' hM' hF'
            refine sx_Mo_goTo ?_
            exact ih1 hjn _ _ (w1 rfl (by omega)) hM' hF'
          have hb : ia (Y.1 43 22 / 2 ^ j) 1 = if mask.testBit j then 1 else 0 := by rw [hmk]; exact bt2 s2 (by omega)
          obtain ⟨o1, o2⟩ := s5 j hjn
          refine ⟨(by omega), (by show _ < ((40 : Nat) : Int); omega), fun h4 => ?_, fun h4 => ⟨(by omega), (by omega), fun h5 => ?_, fun h5 => ⟨(by omega), (by show _ < ((40 : Nat) : Int); omega), ?_⟩⟩⟩
          · have h4 : Y.1 54 j ≠ (k : Int) := h4
            rw [r54] at h4
            refine NX Y hM ?_
            rw [stl_s]
            split
            · rw [List.append_nil]; exact hF
            · rw [wkL_app]
              unfold wkL
              rw [if_neg h4]
              exact hF
          · have h5 : ia (Y.1 43 22 / 2 ^ j) 1 ≠ 0 := h5
            refine NX Y hM ?_
            rw [stl_s, if_pos (Decidable.byContradiction (fun q => h5 (by rw [hb, if_neg q]))), List.append_nil]
            exact hF
          · have h4 : Y.1 54 j = (k : Int) := h4
            have h5 : ia (Y.1 43 22 / 2 ^ j) 1 = 0 := h5
            have A := mo_wake w hD' hF hWj (law := law) (by rw [r43]; exact hl) (m := (X.1 53 j).toNat) (by omega)
            rw [Int.toNat_of_nonneg o1, ← r53] at A
            refine ⟨trivial, _, A, fun _ Y' hq => ?_⟩
            obtain ⟨g1, g2⟩ := hq
            refine NX Y' (hM.tr g1) ?_
            rw [stl_s, if_neg (fun q => by rw [hb, if_pos q] at h5; cases h5), wkL_app]
            rw [r54] at h4
            rw [r53] at g2
            unfold wkL
            rw [if_pos h4]
            exact g2
      exact L1 0 (Nat.zero_le _) 0 Y rfl hM hF
  exact L 0 (Nat.zero_le _) 0 Y rfl hM0 hF0
theorem sz1' : ∀ x : Nat, x < 512 → ia (x : Int) 1 = ((x % 2 : Nat) : Int) := by decide +kernel
theorem pcf_0 : ∀ k, pcf k 0 = 0
  | 0 => rfl
  | k + 1 => by
    show 0 % 2 + pcf k (0 / 2) = 0
    rw [Nat.zero_div, pcf_0 k]
theorem pcf_le : ∀ k x, pcf k x ≤ k
  | 0, _ => Nat.le_refl _
  | k + 1, x => by
    have := pcf_le k (x / 2)
    show x % 2 + pcf k (x / 2) ≤ k + 1
    omega
theorem mo_size (w : WD) (X : XS) {x : Nat} (hx : x < 512) : MS w M_Mo_size [.inl (x : Int)] X (fun z Y => Y = X ∧ z = (pc x : Int)) := by
  refine mk_Mo_size rfl ?_
  refine tx_Mo_size 4 ?_
  have L : ∀ k (y n : Nat) (c d : Int), c = (n : Int) → d = (y : Int) → y < 2 ^ k → k ≤ 9 → n ≤ 10 → n + pcf k y = pc x → Go w K_Mo_size 4 [some (.inl (x : Int)), some (.inl c), some (.inl d)] [] X (fun z Y => Y = X ∧ z = (pc x : Int)) := by
    intro k
    induction k with
    | zero =>
      intro y n c d hc hd hy hk hn hp
      subst hc
      subst hd
      refine sx_Mo_size ?_
      refine ⟨fun h => ?_, fun h => ?_⟩
      · refine sx_Mo_size ?_
        exact ⟨trivial, rfl, by rw [← hp]; rfl⟩
      · exact absurd h (by omega)
    | succ k ih =>
      intro y n c d hc hd hy hk hn hp
      subst hc
      subst hd
      refine sx_Mo_size ?_
      refine ⟨fun h => ?_, fun h => ?_⟩
      · have e : y = 0 := by omega
        subst e
        refine sx_Mo_size ?_
        exact ⟨trivial, rfl, by rw [← hp, pcf_0]; rfl⟩
      · have hy5 : y < 512 := Nat.lt_of_lt_of_le hy (Nat.le_trans (Nat.pow_le_pow_right (by decide) hk) (by decide))
        refine ⟨by decide, by decide, ?_⟩
        have hp' : n + (y % 2 + pcf k (y / 2)) = pc x := hp
        have hpl := pc_le x hx
        refine ih (y / 2) (n + y % 2) _ _ ?_ ?_ ?_ (by omega) (by omega) (by omega)
        · rw [sz1' y hy5, wr_id (by omega) (by omega)]; omega
        · show (y : Int) / 2 ^ 1 = _
          omega
        · rw [Nat.pow_succ] at hy
          omega
  refine L 9 x 0 0 _ rfl rfl hx (by omega) (by omega) ?_
  rw [Nat.zero_add]
  show pcf 9 x = pcf 10 x
  have : ∀ x : Nat, x < 512 → pcf 9 x = pcf 10 x := by decide +kernel
  exact this x hx
theorem mo_standing (w : WD) {D : FD} {X : XS} {u : Nat → Int} (hD : HM D X) (hu : ∀ m, m < dn D → X.1 55 m = u m) (hU : U01 D u) : MS w M_Mo_standing [.inr (.inr (7, 43))] X (fun z Y => Y = X ∧ z = ((bsN u (dn D) : Nat) : Int)) := by
  have h9 := hD.n9
  have hn : X.1 43 7 = (dn D : Int) := hD.1
  refine mk_Mo_standing rfl ?_
  refine tx_Mo_standing 4 ?_
  have L : ∀ j, j ≤ dn D → ∀ (c s : Int), c = (j : Int) → s = ((bsN u j : Nat) : Int) → Go w K_Mo_standing 4 [some (.inr (.inr (7, 43))), some (.inl s), some (.inl c)] [] X (fun z Y => Y = X ∧ z = ((bsN u (dn D) : Nat) : Int)) := by
    refine lp ?_
    intro j hj ih c s hc hs
    subst hc
    subst hs
    refine sx_Mo_standing ?_
    refine ⟨fun h => ?_, fun h => ?_⟩
    · have e : j = dn D := by omega
      subst e
      refine sx_Mo_standing ?_
      exact ⟨trivial, rfl, rfl⟩
    · have hjn : j < dn D := by omega
      have hb : bsN u j < 512 := bs512 (by omega)
      have huj := hu j hjn
      have hUj := hU j hjn
      refine ⟨(by omega), (by show _ < ((9 : Nat) : Int); omega), fun h1 => ?_, fun h1 => ?_⟩
      · have h1 : X.1 55 j = 0 := h1
        refine sx_Mo_standing ?_
        exact ih hjn _ _ (w1 rfl (by omega)) (by rw [bo0 hb, bsN_s, if_neg (by omega)])
      · have h1 : X.1 55 j ≠ 0 := h1
        refine ⟨(by omega), (by omega), ?_⟩
        refine sx_Mo_standing ?_
        exact ih hjn _ _ (w1 rfl (by omega)) (by
          show io _ (wr (1 * 2 ^ j)) = _
          rw [sh1 (by omega), bo1 hb (by omega), bsN_s, if_pos (by omega)])
  exact L 0 (Nat.zero_le _) 0 0 rfl rfl
