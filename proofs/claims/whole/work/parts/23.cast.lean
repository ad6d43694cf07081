/-! ===== one stone more ===== -/
def bcx (x : Int) : Int :=
  ia (wr (wr (ia (wr (wr (ia (wr (x - ia (iu x 1) 1431655765)) 858993459 + ia (iu (wr (x - ia (iu x 1) 1431655765)) 2) 858993459) + iu (wr (ia (wr (x - ia (iu x 1) 1431655765)) 858993459 + ia (iu (wr (x - ia (iu x 1) 1431655765)) 2) 858993459)) 4)) 252645135 + iu (ia (wr (wr (ia (wr (x - ia (iu x 1) 1431655765)) 858993459 + ia (iu (wr (x - ia (iu x 1) 1431655765)) 2) 858993459) + iu (wr (ia (wr (x - ia (iu x 1) 1431655765)) 858993459 + ia (iu (wr (x - ia (iu x 1) 1431655765)) 2) 858993459)) 4)) 252645135) 8) + iu (wr (ia (wr (wr (ia (wr (x - ia (iu x 1) 1431655765)) 858993459 + ia (iu (wr (x - ia (iu x 1) 1431655765)) 2) 858993459) + iu (wr (ia (wr (x - ia (iu x 1) 1431655765)) 858993459 + ia (iu (wr (x - ia (iu x 1) 1431655765)) 2) 858993459)) 4)) 252645135 + iu (ia (wr (wr (ia (wr (x - ia (iu x 1) 1431655765)) 858993459 + ia (iu (wr (x - ia (iu x 1) 1431655765)) 2) 858993459) + iu (wr (ia (wr (x - ia (iu x 1) 1431655765)) 858993459 + ia (iu (wr (x - ia (iu x 1) 1431655765)) 2) 858993459)) 4)) 252645135) 8)) 16)) 63
theorem bcx_pc : ∀ x : Nat, x < 512 → bcx (x : Int) = (pc x : Int) := by decide +kernel
theorem c_bc (w : WD) (X : XS) {x : Nat} (hx : x < 512) : MS w M_Ja_bitCount [.inl (x : Int)] X (fun z Y => Y = X ∧ z = (pc x : Int)) := by
  refine mk_Ja_bitCount rfl ?_
  refine sx_Ja_bitCount ?_
  exact ⟨kc_Ja_265, kc_Ja_266, kc_Ja_266, kc_Ja_267, trivial, rfl, bcx_pc x hx⟩
theorem c_lwsC (w : WD) {X Y : XS} (h : J X) (hC : CS X Y) (a b : Int) (ha : 0 ≤ a ∧ a < X.1 43 7) : MS w M_Tf_leftWithStone [.inr (.inr (6, 1)), .inl a, .inl b] Y (fun z Z => CS X Z ∧ FC (DM X) (RT X (SS X ++ [(a, b)])) Z ∧ z = ((bsN (RT X (SS X ++ [(a, b)])).1 (nM X) : Nat) : Int)) := by
  have A := c_lws w (h.cs hC) a b (by rw [hC.1 43 (by omega)]; exact ha)
  rw [hC.rm.rt, hC.rm.ss, hC.rm.dm] at A
  refine ms_imp A (fun z Z hq => ⟨hC.tr hq.1, hq.2.1, ?_⟩)
  have e : nM Y = nM X := by unfold nM; rw [hC.1 43 (by omega)]
  rw [← e]
  exact hq.2.2
theorem mo_lwC (w : WD) {X Y : XS} (h : J X) (hM : MEn (nS X) X Y) (hs : Y.1 43 19 = (nS X : Int)) (a b : Int) (ha : 0 ≤ a ∧ a < X.1 43 7) : MS w M_Mo_leftWith [.inr (.inr (7, 43)), .inl a, .inl b] Y (fun z Z => MEn (nS X) X Z ∧ Z.1 43 19 = (nS X : Int) ∧ z = ((bsN (RT X (SS X ++ [(a, b)])).1 (nM X) : Nat) : Int)) := by
  have hn := h.n
  obtain ⟨t1, -, -⟩ := h.2.2.2.2.1
  have A := mo_leftWith w (h.hm.men hM) (h.sml.men hM hs) (show nS X < 31 by unfold nS; omega) (law := X.1 43 13) (ab := -9) (by rw [hM.2.2.1 13 (by omega)]) (by rw [hM.2.2.1 23 (by omega)]; exact h.2.2.2.2.2.2.2.1) (a := a) (b := b) ⟨ha.1, by show a < (nM X : Int); omega⟩
  exact ms_imp A (fun z Z hq => ⟨hM.tr hq.1 (Nat.le_refl _), hq.2.1, hq.2.2⟩)
theorem J.ns {X : XS} (h : J X) : X.1 43 19 = (nS X : Int) ∧ nS X ≤ 6 := by
  obtain ⟨t1, -, -⟩ := h.2.2.2.2.1
  unfold nS
  omega
/-- the best of the first k -/
def cst (what : Int) (f : Nat → Int) : Nat → Int × Int
  | 0 => (-9, 0)
  | k + 1 => if (cst what f k).1 = -9 ∨ (if what = 0 then f k < (cst what f k).2 else (cst what f k).2 < f k) then ((k : Int), f k) else cst what f k
theorem cst_s (what : Int) (f : Nat → Int) (k : Nat) : cst what f (k + 1) = if (cst what f k).1 = -9 ∨ (if what = 0 then f k < (cst what f k).2 else (cst what f k).2 < f k) then ((k : Int), f k) else cst what f k := rfl
def f_lw (X : XS) (mn : Int) (k : Nat) : Int := (pc (bsN (RT X (SS X ++ [((k : Int), mn)])).1 (nM X)) : Int)
def a_cast (mn what : Int) (X : XS) : Int := if (0 ≤ mn ∧ mn < 30) ∧ 0 ≤ what ∧ what < 2 then (if X.1 43 5 * X.1 43 6 = 0 then -3 else (cst what (f_lw X mn) (nM X)).1) else -2
theorem p_cast (w : WD) (mn what : Int) : PAIR w M_Tf_cast M_Mo_cast [.inl mn, .inl what] := by
  refine PAIR.ask (a_cast mn what) (fun X Y h => ?_) (fun X h => ?_) (fun X h => ?_)
  · have e : f_lw Y mn = f_lw X mn := by
      funext k
      unfold f_lw nM
      rw [h.rt, h.ss, h 43 (by omega)]
    unfold a_cast nM
    rw [e, h 43 (by omega)]
  · have hal := h.all
    have hn := h.n
    have NO : ¬ ((0 ≤ mn ∧ mn < 30) ∧ 0 ≤ what ∧ what < 2) → Go w K_Tf_cast 17 [some (.inr (.inr (6, 1))), some (.inl mn), some (.inl what), none, none, none, none, none] [] X (fun z Y => CS X Y ∧ z = a_cast mn what X) := by
      intro hno
      refine sx_Tf_cast ?_
      exact ⟨trivial, CS.rf X, by unfold a_cast; rw [if_neg hno]⟩
    refine mk_Tf_cast rfl ?_
    refine sx_Tf_cast ?_
    refine ⟨trivial, _, c_isBelow w X mn 30, fun z Y hq => ?_⟩
    obtain ⟨rfl, rfl⟩ := hq
    refine sx_Tf_cast ?_
    refine ⟨fun q => NO (fun z => nif q z.1), fun q => ?_⟩
    have h1 := pif q
    refine ⟨trivial, _, c_isBelow w Y what 2, fun z Y1 hq => ?_⟩
    obtain ⟨rfl, rfl⟩ := hq
    refine tx_Tf_cast 1 ?_
    refine ⟨fun q => ?_, fun q => NO (fun z => nif q z.2)⟩
    have h2 := pif q
    unfold a_cast
    rw [if_pos ⟨h1, h2⟩]
    refine sx_Tf_cast ?_
    refine ⟨fun q => ?_, fun q => ?_⟩
    · have q2 : Y1.1 1 8 ≠ 0 := q
      rw [if_neg (by omega)]
      refine tx_Tf_cast 6 ?_
      have L : ∀ j, j ≤ nM Y1 → ∀ (c : Int) (Z : XS) (y6 y7 : Option V), c = (j : Int) → CS Y1 Z → Go w K_Tf_cast 39 [some (.inr (.inr (6, 1))), some (.inl mn), some (.inl what), some (.inl (cst what (f_lw Y1 mn) j).1), some (.inl (cst what (f_lw Y1 mn) j).2), some (.inl c), y6, y7] [] Z (fun z Y => CS Y1 Y ∧ z = (cst what (f_lw Y1 mn) (nM Y1)).1) := by
        refine lp ?_
        intro j hj ih c Z y6 y7 hc hC
        subst hc
        have hJ := h.cs hC
        have hcnt : Z.1 (Z.2 0) 9 = (nM Y1 : Int) := by rw [hJ.2.2.1.2.1, hC.1 43 (by omega)]; exact hn.1
        refine sx_Tf_cast ?_
        refine ⟨hJ.b0, fun q => ?_, fun q => ?_⟩
        · have e : j = nM Y1 := by omega
          subst e
          refine sx_Tf_cast ?_
          exact ⟨trivial, hC, rfl⟩
        · have hjn : j < nM Y1 := by omega
          refine ⟨trivial, _, c_lwsC w h hC (j : Int) mn (by omega), fun z Z1 hq => ?_⟩
          obtain ⟨g1, g2, rfl⟩ := hq
          refine sx_Tf_cast ?_
          refine ⟨trivial, _, c_bc w Z1 (bs512 (by omega)), fun z Z2 hq => ?_⟩
          obtain ⟨rfl, rfl⟩ := hq
          have NX : ∀ (y : V) (p : Int × Int), p = cst what (f_lw Y1 mn) (j + 1) → Go w K_Tf_cast 114 [some (.inr (.inr (6, 1))), some (.inl mn), some (.inl what), some (.inl p.1), some (.inl p.2), some (.inl (j : Int)), some (.inl (f_lw Y1 mn j)), some y] [] Z2 (fun z Y => CS Y1 Y ∧ z = (cst what (f_lw Y1 mn) (nM Y1)).1) := by
            intro y p hp
            subst hp
            refine sx_Tf_cast ?_
            exact ih hjn _ _ _ _ (w1 rfl (by omega)) g1
          have MID : ∀ g : Int, (g = 1 ∧ (if what = 0 then f_lw Y1 mn j < (cst what (f_lw Y1 mn) j).2 else (cst what (f_lw Y1 mn) j).2 < f_lw Y1 mn j)) ∨ (g = 0 ∧ ¬ (if what = 0 then f_lw Y1 mn j < (cst what (f_lw Y1 mn) j).2 else (cst what (f_lw Y1 mn) j).2 < f_lw Y1 mn j)) → Go w K_Tf_cast 94 [some (.inr (.inr (6, 1))), some (.inl mn), some (.inl what), some (.inl (cst what (f_lw Y1 mn) j).1), some (.inl (cst what (f_lw Y1 mn) j).2), some (.inl (j : Int)), some (.inl (f_lw Y1 mn j)), y7] [.inl g] Z2 (fun z Y => CS Y1 Y ∧ z = (cst what (f_lw Y1 mn) (nM Y1)).1) := by
            intro g hg
            refine tx_Tf_cast 6 ?_
            refine ⟨fun q => ?_, fun q => ⟨fun q2 => ?_, fun q2 => ?_⟩⟩
            · refine tx_Tf_cast 4 ?_
              exact NX _ ((j : Int), f_lw Y1 mn j) (by rw [cst_s, if_pos (Or.inl q)])
            · refine NX _ (cst what (f_lw Y1 mn) j) ?_
              rw [cst_s, if_neg]
              intro z
              rcases z with z | z
              · exact q z
              · rcases hg with ⟨hg, -⟩ | ⟨-, hg⟩
                · omega
                · exact hg z
            · refine tx_Tf_cast 4 ?_
              refine NX _ ((j : Int), f_lw Y1 mn j) ?_
              rw [cst_s, if_pos]
              right
              rcases hg with ⟨-, hg⟩ | ⟨hg, -⟩
              · exact hg
              · exact absurd hg q2
          refine sx_Tf_cast ?_
          refine ⟨fun q => ?_, fun q => ⟨fun q2 => ?_, fun q2 => ?_⟩⟩
          · refine sx_Tf_cast ?_
            refine ⟨fun q2 => ?_, fun q2 => ?_⟩
            · refine tx_Tf_cast 1 ?_
              exact MID 0 (Or.inr ⟨rfl, by rw [if_neg q]; exact Int.not_lt.mpr q2⟩)
            · exact MID 1 (Or.inl ⟨rfl, by rw [if_neg q]; exact q2⟩)
          · refine sx_Tf_cast ?_
            exact MID 0 (Or.inr ⟨rfl, by rw [if_pos q]; exact Int.not_lt.mpr q2⟩)
          · exact MID 1 (Or.inl ⟨rfl, by rw [if_pos q]; exact q2⟩)
      exact L 0 (Nat.zero_le _) 0 Y1 none none rfl (CS.rf Y1)
    · have q2 : Y1.1 1 8 = 0 := q
      rw [if_pos (by omega)]
      exact ⟨trivial, CS.rf Y1, rfl⟩
  · have hal := h.all
    have hn := h.n
    have hns := h.ns
    have NO : ¬ ((0 ≤ mn ∧ mn < 30) ∧ 0 ≤ what ∧ what < 2) → Go w K_Mo_cast 16 [some (.inr (.inr (7, 43))), some (.inl mn), some (.inl what), none, none, none, none, none] [] X (fun z Y => ME X Y ∧ z = a_cast mn what X) := by
      intro hno
      refine sx_Mo_cast ?_
      exact ⟨trivial, ME.rf X, by unfold a_cast; rw [if_neg hno]⟩
    refine mk_Mo_cast rfl ?_
    refine sx_Mo_cast ?_
    refine ⟨trivial, _, mo_isMinute w X mn, fun z Y hq => ?_⟩
    obtain ⟨rfl, rfl⟩ := hq
    refine sx_Mo_cast ?_
    refine ⟨fun q => NO (fun z => nif q (by omega)), fun q => ?_⟩
    have h1 := pif q
    refine ⟨trivial, _, mo_within w Y what 0 1, fun z Y1 hq => ?_⟩
    obtain ⟨rfl, rfl⟩ := hq
    refine tx_Mo_cast 1 ?_
    refine ⟨fun q => ?_, fun q => NO (fun z => nif q (by omega))⟩
    have h2 := pif q
    unfold a_cast
    rw [if_pos (by omega)]
    refine sx_Mo_cast ?_
    refine ⟨trivial, _, mo_all w h, fun z Y2 hq => ?_⟩
    obtain ⟨rfl, rfl⟩ := hq
    refine sx_Mo_cast ?_
    refine ⟨fun q => ?_, fun q => ⟨trivial, ME.rf Y2, by rw [if_pos q]⟩⟩
    rw [if_neg q]
    refine tx_Mo_cast 6 ?_
    have L : ∀ j, j ≤ nM Y2 → ∀ (c : Int) (Z : XS) (y6 y7 : Option V), c = (j : Int) → MEn (nS Y2) Y2 Z → Z.1 43 19 = (nS Y2 : Int) → Go w K_Mo_cast 38 [some (.inr (.inr (7, 43))), some (.inl mn), some (.inl what), some (.inl (cst what (f_lw Y2 mn) j).1), some (.inl (cst what (f_lw Y2 mn) j).2), some (.inl c), y6, y7] [] Z (fun z Y => ME Y2 Y ∧ z = (cst what (f_lw Y2 mn) (nM Y2)).1) := by
      refine lp ?_
      intro j hj ih c Z y6 y7 hc hM hs
      subst hc
      have hcnt : Z.1 43 7 = (nM Y2 : Int) := by rw [hM.2.2.1 7 (by omega)]; exact hn.1
      refine sx_Mo_cast ?_
      refine ⟨fun q => ?_, fun q => ?_⟩
      · have e : j = nM Y2 := by omega
        subst e
        refine sx_Mo_cast ?_
        exact ⟨trivial, hM.me (by rw [hs]; exact hns.1.symm), rfl⟩
      · have hjn : j < nM Y2 := by omega
        refine ⟨trivial, _, mo_lwC w h hM hs (j : Int) mn (by omega), fun z Z1 hq => ?_⟩
        obtain ⟨g1, g2, rfl⟩ := hq
        refine sx_Mo_cast ?_
        refine ⟨trivial, _, mo_size w Z1 (bs512 (by omega)), fun z Z2 hq => ?_⟩
        obtain ⟨rfl, rfl⟩ := hq
        have NX : ∀ (y : V) (p : Int × Int), p = cst what (f_lw Y2 mn) (j + 1) → Go w K_Mo_cast 110 [some (.inr (.inr (7, 43))), some (.inl mn), some (.inl what), some (.inl p.1), some (.inl p.2), some (.inl (j : Int)), some (.inl (f_lw Y2 mn j)), some y] [] Z2 (fun z Y => ME Y2 Y ∧ z = (cst what (f_lw Y2 mn) (nM Y2)).1) := by
          intro y p hp
          subst hp
          refine sx_Mo_cast ?_
          exact ih hjn _ _ _ _ (w1 rfl (by omega)) g1 g2
        have MID : ∀ g : Int, (g = 1 ∧ (if what = 0 then f_lw Y2 mn j < (cst what (f_lw Y2 mn) j).2 else (cst what (f_lw Y2 mn) j).2 < f_lw Y2 mn j)) ∨ (g = 0 ∧ ¬ (if what = 0 then f_lw Y2 mn j < (cst what (f_lw Y2 mn) j).2 else (cst what (f_lw Y2 mn) j).2 < f_lw Y2 mn j)) → Go w K_Mo_cast 90 [some (.inr (.inr (7, 43))), some (.inl mn), some (.inl what), some (.inl (cst what (f_lw Y2 mn) j).1), some (.inl (cst what (f_lw Y2 mn) j).2), some (.inl (j : Int)), some (.inl (f_lw Y2 mn j)), y7] [.inl g] Z2 (fun z Y => ME Y2 Y ∧ z = (cst what (f_lw Y2 mn) (nM Y2)).1) := by
          intro g hg
          refine tx_Mo_cast 6 ?_
          refine ⟨fun q => ?_, fun q => ⟨fun q2 => ?_, fun q2 => ?_⟩⟩
          · refine tx_Mo_cast 4 ?_
            exact NX _ ((j : Int), f_lw Y2 mn j) (by rw [cst_s, if_pos (Or.inl q)])
          · refine NX _ (cst what (f_lw Y2 mn) j) ?_
            rw [cst_s, if_neg]
            intro z
            rcases z with z | z
            · exact q z
            · rcases hg with ⟨hg, -⟩ | ⟨-, hg⟩
              · omega
              · exact hg z
          · refine tx_Mo_cast 4 ?_
            refine NX _ ((j : Int), f_lw Y2 mn j) ?_
            rw [cst_s, if_pos]
            right
            rcases hg with ⟨-, hg⟩ | ⟨hg, -⟩
            · exact hg
            · exact absurd hg q2
        refine sx_Mo_cast ?_
        refine ⟨fun q => ?_, fun q => ⟨fun q2 => ?_, fun q2 => ?_⟩⟩
        · refine sx_Mo_cast ?_
          refine ⟨fun q2 => ?_, fun q2 => ?_⟩
          · refine tx_Mo_cast 1 ?_
            exact MID 0 (Or.inr ⟨rfl, by rw [if_neg q]; exact Int.not_lt.mpr q2⟩)
          · exact MID 1 (Or.inl ⟨rfl, by rw [if_neg q]; exact q2⟩)
        · refine sx_Mo_cast ?_
          exact MID 0 (Or.inr ⟨rfl, by rw [if_pos q]; exact Int.not_lt.mpr q2⟩)
        · exact MID 1 (Or.inl ⟨rfl, by rw [if_pos q]; exact q2⟩)
    exact L 0 (Nat.zero_le _) 0 Y2 none none rfl (MEn.rf _ Y2) hns.1
