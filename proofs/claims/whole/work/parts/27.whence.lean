/-! ===== whence, laws, kinds ===== -/
theorem bi1 {b : Bool} : bi b = 1 ↔ b = true := by cases b <;> decide
theorem bi0 {b : Bool} (h : bi b = 0) : ¬ bi b = 1 := by omega
theorem bin {b : Bool} (h : bi b ≠ 0) : bi b = 1 := by cases b with
  | false => exact absurd rfl h
  | true => rfl
theorem CS.rd {X Y : XS} (h : CS X Y) : ∀ i, 23 ≤ i → i ≤ 26 → Y.1 i = X.1 i := fun i a b => h.1 i (by omega)
theorem FC.fell {D : FD} {F : FS} {X : XS} (h : FC D F X) : ∀ m, m < dn D → X.1 15 m = fl (F.2.2.2 m) := fun m hm => (h.2 m hm).2.2
theorem RM.seen {X Y : XS} (h : RM X Y) (f : Nat → Int) : so Y f = so X f := by unfold so nR; rw [h 43 (by omega), h 60 (by omega), h 61 (by omega), h 62 (by omega)]
/-- a laid stone is taken back -/
theorem unlay {D : FD} {n : Nat} {X Y Y1 : XS} {S : List (Int × Int)} (g1 : MEn n X Y) (g2 : SML D Y S (n + 1)) (g3 : MF Y Y1) : MEn n X (up Y1.1 43 19 (wr (Y1.1 43 19 - 1)), Y1.2) ∧ up Y1.1 43 19 (wr (Y1.1 43 19 - 1)) 43 19 = (n : Int) := by
  have hc : Y1.1 43 19 = ((n + 1 : Nat) : Int) := by rw [g3.2 43 (by omega)]; exact g2.2.1
  have hn := g2.1
  have e : wr (Y1.1 43 19 - 1) = (n : Int) := by rw [hc, wr_id (by omega) (by omega)]; omega
  rw [e]
  refine ⟨(g1.tr (g3.men n) (Nat.le_refl n)).tr (k := n) ⟨fun i hi => ?_, rfl, fun k hk => ?_, fun k hk => ?_⟩ (Nat.le_refl n), by simp [up_g]⟩
  · show up Y1.1 43 19 (n : Int) i = Y1.1 i
    exact up_ne (by omega)
  · have : k ≠ 19 := by omega
    simp [up_g, this]
  · simp [up_g]
def wh (X : XS) (mn : Int) (j : Nat) : Int := bi (so X (RT X (SS X ++ [((j : Int), mn)])).2.2.2)
def a_whence (mn : Int) (X : XS) : Int := if 0 ≤ mn ∧ mn < 30 then (if X.1 43 5 * X.1 43 6 = 0 then -3 else ((bsN (wh X mn) (nM X) : Nat) : Int)) else -2
theorem p_whence (w : WD) (b : Int) : PAIR w M_Tf_whence M_Mo_whence [.inl b] := by
  refine PAIR.ask (a_whence b) (fun X Y h => ?_) (fun X h => ?_) (fun X h => ?_)
  · have e : wh Y b = wh X b := by
      funext k
      unfold wh
      rw [h.seen, h.rt, h.ss]
    unfold a_whence nM
    rw [e, h 43 (by omega)]
  · have hal := h.all
    have hn := h.n
    unfold a_whence
    refine mk_Tf_whence rfl ?_
    refine sx_Tf_whence ?_
    refine ⟨trivial, _, c_isBelow w X b 30, fun z Y hq => ?_⟩
    obtain ⟨rfl, rfl⟩ := hq
    refine sx_Tf_whence ?_
    refine ⟨fun q => ?_, fun q => ⟨trivial, CS.rf Y, by rw [if_neg (nif q)]⟩⟩
    rw [if_pos (pif q)]
    refine sx_Tf_whence ?_
    refine ⟨fun q2 => ?_, fun q2 => ?_⟩
    · have q2 : Y.1 1 8 ≠ 0 := q2
      rw [if_neg (by omega)]
      refine tx_Tf_whence 4 ?_
      have L : ∀ j, j ≤ nM Y → ∀ (c s : Int) (Z : XS), c = (j : Int) → s = ((bsN (wh Y b) j : Nat) : Int) → CS Y Z → Go w K_Tf_whence 26 [some (.inr (.inr (6, 1))), some (.inl b), some (.inl s), some (.inl c)] [] Z (fun z Z => CS Y Z ∧ z = ((bsN (wh Y b) (nM Y) : Nat) : Int)) := by
        refine lp ?_
        intro j hj ih c s Z hc hs hC
        subst hc
        subst hs
        have hJ := h.cs hC
        have hcnt : Z.1 (Z.2 0) 9 = (nM Y : Int) := by rw [hJ.2.2.1.2.1, hC.1 43 (by omega)]; exact hn.1
        refine sx_Tf_whence ?_
        refine ⟨hJ.b0, fun q => ?_, fun q => ?_⟩
        · have e : j = nM Y := by omega
          subst e
          refine sx_Tf_whence ?_
          exact ⟨trivial, hC, rfl⟩
        · have hjn : j < nM Y := by omega
          refine ⟨trivial, _, c_lwsC w h hC (j : Int) b (by omega), fun z Z1 hq => ?_⟩
          obtain ⟨g1, g2, rfl⟩ := hq
          refine sx_Tf_whence ?_
          refine ⟨trivial, _, c_areSo w h g1.rd g2.fell, fun z Z2 hq => ?_⟩
          obtain ⟨rfl, rfl⟩ := hq
          refine sx_Tf_whence ?_
          refine ⟨fun q => ?_, fun q => ?_⟩
          · refine sx_Tf_whence ?_
            exact ih hjn _ _ _ (w1 rfl (by omega)) (by rw [bsN_s, if_neg (show ¬ wh Y b j = 1 from bi0 q)]) g1
          · refine ⟨(by omega), (by omega), ?_⟩
            exact ih hjn _ _ _ (w1 rfl (by omega)) (by
              show io _ (wr (1 * 2 ^ j)) = _
              rw [sh1 (by omega), bo1 (bs512 (by omega)) (by omega), bsN_s, if_pos (show wh Y b j = 1 from bin q)]) g1
      exact L 0 (Nat.zero_le _) 0 0 Y rfl rfl (CS.rf Y)
    · have q2 : Y.1 1 8 = 0 := q2
      rw [if_pos (by omega)]
      exact ⟨trivial, CS.rf Y, rfl⟩
  · have hn := h.n
    have hns := h.ns
    unfold a_whence
    refine mk_Mo_whence rfl ?_
    refine sx_Mo_whence ?_
    refine ⟨trivial, _, mo_isMinute w X b, fun z Y hq => ?_⟩
    obtain ⟨rfl, rfl⟩ := hq
    refine sx_Mo_whence ?_
    refine ⟨fun q => ?_, fun q => ⟨trivial, ME.rf Y, by rw [if_neg (fun z => nif q (by omega))]⟩⟩
    have h1 := pif q
    rw [if_pos (by omega)]
    refine sx_Mo_whence ?_
    refine ⟨trivial, _, mo_all w h, fun z Y2 hq => ?_⟩
    obtain ⟨rfl, rfl⟩ := hq
    refine sx_Mo_whence ?_
    refine ⟨fun q => ?_, fun q => ⟨trivial, ME.rf Y2, by rw [if_pos q]⟩⟩
    rw [if_neg q]
    refine tx_Mo_whence 4 ?_
    have L : ∀ j, j ≤ nM Y2 → ∀ (c s : Int) (Z : XS), c = (j : Int) → s = ((bsN (wh Y2 b) j : Nat) : Int) → MEn (nS Y2) Y2 Z → Z.1 43 19 = (nS Y2 : Int) → Go w K_Mo_whence 24 [some (.inr (.inr (7, 43))), some (.inl b), some (.inl s), some (.inl c)] [] Z (fun z Z => ME Y2 Z ∧ z = ((bsN (wh Y2 b) (nM Y2) : Nat) : Int)) := by
      refine lp ?_
      intro j hj ih c s Z hc hs hM hs'
      subst hc
      subst hs
      have hcnt : Z.1 43 7 = (nM Y2 : Int) := by rw [hM.2.2.1 7 (by omega)]; exact hn.1
      refine sx_Mo_whence ?_
      refine ⟨fun q => ?_, fun q => ?_⟩
      · have e : j = nM Y2 := by omega
        subst e
        refine sx_Mo_whence ?_
        exact ⟨trivial, hM.me (by rw [hs']; exact hns.1.symm), rfl⟩
      · have hjn : j < nM Y2 := by omega
        refine ⟨trivial, _, mo_layS w (h.sml.men hM hs') (show nS Y2 < 31 by omega) (a := (j : Int)) (b := b) ⟨(by omega), by show (j : Int) < (nM Y2 : Int); omega⟩, fun z Z1 hq => ?_⟩
        obtain ⟨g1, g2⟩ := hq
        have g1 := hM.tr g1 (Nat.le_refl _)
        have A := mo_areSo w (X := Y2) h ⟨g1.2.2.1 29 (by omega), g1.1 60 (by omega), g1.1 61 (by omega), g1.1 62 (by omega)⟩ (D := DM Y2) rfl (h.hm.men g1) g2.smo (g1.2.2.1 13 (by omega)) ((g1.2.2.1 23 (by omega)).trans h.2.2.2.2.2.2.2.1)
        refine sx_Mo_whence ?_
        refine ⟨trivial, _, A, fun z Z2 hq => ?_⟩
        obtain ⟨g3, rfl⟩ := hq
        obtain ⟨u1, u2⟩ := unlay g1 g2 g3
        have NX : ∀ t : Int, io ((bsN (wh Y2 b) j : Nat) : Int) t = ((bsN (wh Y2 b) (j + 1) : Nat) : Int) → Go w K_Mo_whence 53 [some (.inr (.inr (7, 43))), some (.inl b), some (.inl ((bsN (wh Y2 b) j : Nat) : Int)), some (.inl (j : Int))] [.inl t, .inl ((bsN (wh Y2 b) j : Nat) : Int)] Z2 (fun z Z => ME Y2 Z ∧ z = ((bsN (wh Y2 b) (nM Y2) : Nat) : Int)) := by
          intro t ht
          refine sx_Mo_whence ?_
          exact ih hjn _ _ _ (w1 rfl (by omega)) ht u1 u2
        refine sx_Mo_whence ?_
        refine ⟨fun q => ?_, fun q => ?_⟩
        · refine tx_Mo_whence 1 ?_
          exact NX 0 (by rw [bo0 (bs512 (by omega)), bsN_s, if_neg (show ¬ wh Y2 b j = 1 from bi0 q)])
        · refine ⟨(by omega), (by omega), ?_⟩
          refine NX _ ?_
          show io _ (wr (1 * 2 ^ j)) = _
          rw [sh1 (by omega), bo1 (bs512 (by omega)) (by omega), bsN_s, if_pos (show wh Y2 b j = 1 from bin q)]
    exact L 0 (Nat.zero_le _) 0 0 Y2 rfl rfl (MEn.rf _ Y2) hns.1
/-! laws -/
def lws (X : XS) (v : Nat) : Int := bi (so X (run (DM X) (v : Int) (SS X) (-9) 30).2.2.2)
def a_laws (X : XS) : Int := if X.1 43 5 * X.1 43 6 = 0 then -3 else ((bsN (lws X) 3 : Nat) : Int)
theorem u13_hm {D : FD} {X : XS} (h : HM D X) (z : Int) : HM D (up X.1 43 13 z, X.2) := by
  obtain ⟨h1, h2, h3, h4, h5⟩ := h
  refine ⟨?_, h2, fun m hm => ?_, fun m hm => ?_, fun m o hm ho => ?_⟩
  · simpa [up_g] using h1
  · simpa [up_g] using h3 m hm
  · simpa [up_g] using h4 m hm
  · simpa [up_g] using h5 m o hm ho
theorem u13_smo {D : FD} {X : XS} {S : List (Int × Int)} (h : SMo D X S) (z : Int) : SMo D (up X.1 43 13 z, X.2) S := by
  obtain ⟨n, un, h1, h2, h3, h4, h5, h6⟩ := h
  refine ⟨n, un, h1, h2, ?_, ?_, fun k hk => ?_, ?_⟩
  · simpa [up_g] using h3
  · simpa [up_g] using h4
  · simpa [up_g] using h5 k hk
  · rw [h6]; exact stl_congr (fun k hk => by simp [up_g])
theorem smo_mf {D : FD} {X Y : XS} {S : List (Int × Int)} (h : SMo D X S) (g : MF X Y) : SMo D Y S := by
  obtain ⟨n, un, h1, h2, h3, h4, h5, h6⟩ := h
  refine ⟨n, un, h1, h2, ?_, ?_, fun k hk => ?_, ?_⟩
  · rw [g.2 43 (by omega)]; exact h3
  · rw [g.2 43 (by omega)]; exact h4
  · rw [g.2 53 (by omega)]; exact h5 k hk
  · rw [g.2 53 (by omega), g.2 54 (by omega)]; exact h6
theorem p_laws (w : WD) : PAIR w M_Tf_laws M_Mo_laws [] := by
  refine PAIR.ask a_laws (fun X Y h => ?_) (fun X h => ?_) (fun X h => ?_)
  · have e : lws Y = lws X := by
      funext k
      unfold lws
      rw [h.seen, h.dm, h.ss]
    unfold a_laws
    rw [e, h 43 (by omega)]
  · have hal := h.all
    have hn := h.n
    unfold a_laws
    refine mk_Tf_laws rfl ?_
    refine sx_Tf_laws ?_
    refine ⟨fun q2 => ?_, fun q2 => ?_⟩
    · have q2 : X.1 1 8 ≠ 0 := q2
      rw [if_neg (by omega)]
      refine tx_Tf_laws 4 ?_
      have L : ∀ j : Nat, j ≤ 3 → ∀ (c s : Int) (Z : XS), c = (j : Int) → s = ((bsN (lws X) j : Nat) : Int) → CS X Z → Go w K_Tf_laws 14 [some (.inr (.inr (6, 1))), some (.inl s), some (.inl c)] [] Z (fun z Z => CS X Z ∧ z = ((bsN (lws X) 3 : Nat) : Int)) := by
        refine lp ?_
        intro j hj ih c s Z hc hs hC
        subst hc
        subst hs
        have hJ := h.cs hC
        refine sx_Tf_laws ?_
        refine ⟨fun q => ?_, fun q => ?_⟩
        · have e : j = 3 := by omega
          subst e
          refine sx_Tf_laws ?_
          exact ⟨trivial, hC, rfl⟩
        · have hjn : j < 3 := by omega
          have A := c_run w (ab := -9) (law := (j : Int)) hJ.hb (by omega) hJ.sc (last := 29) (by decide)
          rw [hC.rm.dm, hC.rm.ss] at A
          refine ⟨hJ.b0, trivial, _, A, fun z Z1 hq => ?_⟩
          obtain ⟨g1, g2, -⟩ := hq
          have g1 := hC.tr g1.cs
          refine sx_Tf_laws ?_
          refine ⟨trivial, _, c_areSo w h g1.rd g2.fell, fun z Z2 hq => ?_⟩
          obtain ⟨rfl, rfl⟩ := hq
          refine sx_Tf_laws ?_
          refine ⟨fun q => ?_, fun q => ?_⟩
          · refine sx_Tf_laws ?_
            exact ih hjn _ _ _ (w1 rfl (by omega)) (by rw [bsN_s, if_neg (show ¬ lws X j = 1 from bi0 q)]) g1
          · refine ⟨(by omega), (by omega), ?_⟩
            exact ih hjn _ _ _ (w1 rfl (by omega)) (by
              show io _ (wr (1 * 2 ^ j)) = _
              rw [sh1 (by omega), bo1 (bs512 (by omega)) (by omega), bsN_s, if_pos (show lws X j = 1 from bin q)]) g1
      exact L 0 (Nat.zero_le _) 0 0 X rfl rfl (CS.rf X)
    · have q2 : X.1 1 8 = 0 := q2
      rw [if_pos (by omega)]
      exact ⟨trivial, CS.rf X, rfl⟩
  · have hn := h.n
    unfold a_laws
    refine mk_Mo_laws rfl ?_
    refine sx_Mo_laws ?_
    refine ⟨trivial, _, mo_all w h, fun z Y2 hq => ?_⟩
    obtain ⟨rfl, rfl⟩ := hq
    refine sx_Mo_laws ?_
    refine ⟨fun q => ?_, fun q => ⟨trivial, ME.rf Y2, by rw [if_pos q]⟩⟩
    rw [if_neg q]
    refine tx_Mo_laws 7 ?_
    have L : ∀ j : Nat, j ≤ 3 → ∀ (c s : Int) (Z : XS) (v : Int), c = (j : Int) → s = ((bsN (lws Y2) j : Nat) : Int) → MF (up Y2.1 43 13 v, Y2.2) Z → Go w K_Mo_laws 19 [some (.inr (.inr (7, 43))), some (.inl (Y2.1 43 13)), some (.inl s), some (.inl c)] [] Z (fun z Z => ME Y2 Z ∧ z = ((bsN (lws Y2) 3 : Nat) : Int)) := by
      refine lp ?_
      intro j hj ih c s Z v hc hs hM
      subst hc
      subst hs
      refine sx_Mo_laws ?_
      refine ⟨fun q => ?_, fun q => ?_⟩
      · have e : j = 3 := by omega
        subst e
        refine sx_Mo_laws ?_
        refine ⟨trivial, ⟨fun i hi => ?_, hM.1, fun k hk => ?_, fun k hk => ?_⟩, rfl⟩
        · show up Z.1 43 13 _ i = _
          rw [up_ne (by omega), hM.2 i (by omega)]
          exact up_ne (by omega)
        · by_cases e : k = 13
          · subst e; simp [up_g]
          · have := hM.2 43 (by omega)
            simp [up_g, e, this]
        · have a1 := hM.2 53 (by omega)
          have a2 := hM.2 54 (by omega)
          simp [up_g, a1, a2]
      · have hjn : j < 3 := by omega
        have hM' : MF (up Y2.1 43 13 (j : Int), Y2.2) (up Z.1 43 13 (j : Int), Z.2) := by
          refine ⟨hM.1, fun i hi => ?_⟩
          show up Z.1 43 13 _ i = up Y2.1 43 13 _ i
          by_cases e : i = 43
          · subst e
            funext k
            have := hM.2 43 (by omega)
            by_cases e : k = 13
            · subst e; simp [up_g]
            · simp [up_g, e, this]
          · rw [up_ne e, up_ne e, hM.2 i hi]
            exact up_ne e
        have A := mo_areSo w (X := Y2) (Y := (up Z.1 43 13 (j : Int), Z.2)) (law := (j : Int)) (ab := -9) h ⟨by rw [hM'.2 43 (by omega)]; simp [up_g], by rw [hM'.2 60 (by omega)]; show up Y2.1 43 13 (j : Int) 60 = Y2.1 60; exact up_ne (by decide), by rw [hM'.2 61 (by omega)]; show up Y2.1 43 13 (j : Int) 61 = Y2.1 61; exact up_ne (by decide), by rw [hM'.2 62 (by omega)]; show up Y2.1 43 13 (j : Int) 62 = Y2.1 62; exact up_ne (by decide)⟩ (D := DM Y2) rfl ((u13_hm h.hm (j : Int)).mf hM') (smo_mf (u13_smo h.smo (j : Int)) hM') (by simp [up_g]) (by rw [hM'.2 43 (by omega)]; simp [up_g]; exact h.2.2.2.2.2.2.2.1)
        refine ⟨trivial, _, A, fun z Z2 hq => ?_⟩
        obtain ⟨g3, rfl⟩ := hq
        have g3 := hM'.tr g3
        have NX : ∀ t : Int, io ((bsN (lws Y2) j : Nat) : Int) t = ((bsN (lws Y2) (j + 1) : Nat) : Int) → Go w K_Mo_laws 44 [some (.inr (.inr (7, 43))), some (.inl (Y2.1 43 13)), some (.inl ((bsN (lws Y2) j : Nat) : Int)), some (.inl (j : Int))] [.inl t, .inl ((bsN (lws Y2) j : Nat) : Int)] Z2 (fun z Z => ME Y2 Z ∧ z = ((bsN (lws Y2) 3 : Nat) : Int)) := by
          intro t ht
          refine sx_Mo_laws ?_
          exact ih hjn _ _ _ _ (w1 rfl (by omega)) ht g3
        refine sx_Mo_laws ?_
        refine ⟨fun q => ?_, fun q => ?_⟩
        · refine tx_Mo_laws 1 ?_
          exact NX 0 (by rw [bo0 (bs512 (by omega)), bsN_s, if_neg (show ¬ lws Y2 j = 1 from bi0 q)])
        · refine ⟨(by omega), (by omega), ?_⟩
          refine NX _ ?_
          show io _ (wr (1 * 2 ^ j)) = _
          rw [sh1 (by omega), bo1 (bs512 (by omega)) (by omega), bsN_s, if_pos (show lws Y2 j = 1 from bin q)]
    refine L 0 (Nat.zero_le _) 0 0 Y2 (Y2.1 43 13) rfl rfl ⟨rfl, fun i hi => ?_⟩
    show Y2.1 i = up Y2.1 43 13 _ i
    by_cases e : i = 43
    · subst e
      funext k
      by_cases e : k = 13
      · subst e; simp [up_g]
      · simp [up_g, e]
    · rw [up_ne e]
