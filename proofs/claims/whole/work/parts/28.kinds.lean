/-! ===== kinds ===== -/
def DK (X : XS) (m : Nat) (v : Int) : FD := ((X.1 43 7).toNat, u1 (X.1 47) m v, X.1 48, X.1 49, X.1 50, fun m o => fr (X.1 43 6) (X.1 51 m) (X.1 51 o))
theorem RM.dk {X Y : XS} (h : RM X Y) (m : Nat) (v : Int) : DK Y m v = DK X m v := by
  unfold DK
  rw [h 43 (by omega), h 47 (by omega), h 48 (by omega), h 49 (by omega), h 50 (by omega), h 51 (by omega)]
theorem dk_dr {X : XS} (h : J X) {m : Nat} {v : Int} (hv : 0 ≤ v ∧ v ≤ 2) : DR (DK X m v) := by
  have hn := h.n
  obtain ⟨-, -, -, q4, -⟩ := h.2.2.1
  refine ⟨by show nM X ≤ 9; omega, fun x hx => ?_⟩
  obtain ⟨a, -, c, d, -⟩ := q4 x hx
  refine ⟨?_, c, d⟩
  show 0 ≤ u1 (X.1 47) m v x ∧ u1 (X.1 47) m v x ≤ 2
  unfold u1
  split
  · exact hv
  · exact a
theorem HB.cs {D : FD} {b : Nat} {X Y : XS} (h : HB D b X) (g : CS X Y) : HB D b Y := by
  have hb := h.1
  unfold HB
  rw [g.1 b (by omega), g.1 (b + 1) (by omega), g.1 (b + 2) (by omega), g.1 (b + 3) (by omega), g.1 (b + 4) (by omega), g.1 (b + 6) (by omega)]
  exact h
theorem sc_cs {D : FD} {X Y : XS} {S : List (Int × Int)} (h : SC D 17 X S) (g : CS X Y) : SC D 17 Y S := by
  unfold SC
  rw [g.1 17 (by omega), g.1 (17 + 1) (by omega), g.1 (17 + 2) (by omega)]
  exact h
theorem c_leftG (w : WD) {D : FD} {X : XS} {S : List (Int × Int)} {law : Int} (hD : HB D (X.2 0) X) (hlaw : X.1 1 9 = law) (hl : law = 0 ∨ law = 1 ∨ law = 2) (hS : SC D 17 X S) : MS w M_Tf_leftNow [.inr (.inr (6, 1))] X (fun z Y => CS X Y ∧ FC D (run D law S (-9) 30) Y ∧ z = ((bsN (run D law S (-9) 30).1 (dn D) : Nat) : Int)) := by
  have hb := hD.1
  have A := c_run w (ab := -9) hD hl hS (last := 29) (by decide)
  rw [← hlaw] at A
  rw [← hlaw]
  refine mk_Tf_leftNow rfl ?_
  refine sx_Tf_leftNow ?_
  refine ⟨by omega, trivial, _, A, fun z Y hq => ?_⟩
  refine sx_Tf_leftNow ?_
  exact ⟨trivial, hq.1.cs, hq.2⟩
def kw (X : XS) (m : Nat) (v : Int) : XS := (up X.1 (X.2 0 + 1) m v, X.2)
theorem J.b2 {X : XS} (h : J X) : X.2 0 = 27 ∨ X.2 0 = 35 := by rcases h.2.1 with h | h <;> omega
theorem up_row {h : Nat → Nat → Int} {i k : Nat} {z : Int} : up h i k z i = u1 (h i) k z := by
  funext q
  unfold u1
  simp [up_g]
theorem kw_hb {X : XS} (h : J X) {m : Nat} {v : Int} (hv : 0 ≤ v ∧ v ≤ 2) : HB (DK X m v) (X.2 0) (kw X m v) := by
  have hb := h.b2
  obtain ⟨a1, a2, a3, a4, a5⟩ := h.hb
  refine ⟨hb, ?_, dk_dr h hv, fun x hx => ?_, fun x o hx ho => ?_⟩
  · show up X.1 (X.2 0 + 1) m v (X.2 0) 9 = _
    rw [up_ne (by omega)]
    exact a2
  · obtain ⟨b1, b2, b3, b4⟩ := a4 x hx
    refine ⟨?_, ?_, ?_, ?_⟩
    · show up X.1 (X.2 0 + 1) m v (X.2 0 + 1) x = u1 (X.1 47) m v x
      rw [up_row]
      unfold u1
      split
      · rfl
      · exact b1
    · show up X.1 (X.2 0 + 1) m v (X.2 0 + 2) x = _
      rw [up_ne (by omega)]
      exact b2
    · show up X.1 (X.2 0 + 1) m v (X.2 0 + 3) x = _
      rw [up_ne (by omega)]
      exact b3
    · show up X.1 (X.2 0 + 1) m v (X.2 0 + 4) x = _
      rw [up_ne (by omega)]
      exact b4
  · show up X.1 (X.2 0 + 1) m v (X.2 0 + 6) (x * 9 + o) = _
    rw [up_ne (by omega)]
    exact a5 x o hx ho
theorem kw_sc {X : XS} (h : J X) {m : Nat} {v : Int} : SC (DK X m v) 17 (kw X m v) (SS X) := by
  have hb := h.b2
  have := h.sc
  unfold SC at this ⊢
  rw [show (kw X m v).1 17 = X.1 17 from up_ne (by omega), show (kw X m v).1 (17 + 1) = X.1 (17 + 1) from up_ne (by omega), show (kw X m v).1 (17 + 2) = X.1 (17 + 2) from up_ne (by omega)]
  exact this
theorem kw_cs {X Z : XS} {m : Nat} {v u : Int} (h : CS (kw X m v) Z) (hb : X.2 0 = 27 ∨ X.2 0 = 35) : CS (kw X m u) (up Z.1 (Z.2 0 + 1) m u, Z.2) := by
  have e : Z.2 0 = X.2 0 := h.2.1
  refine ⟨fun i hi => ?_, h.2.1, h.2.2⟩
  show up Z.1 (Z.2 0 + 1) m u i = up X.1 (X.2 0 + 1) m u i
  rw [e]
  by_cases q : i = X.2 0 + 1
  · subst q
    rw [up_row, up_row, h.1 _ hi]
    funext x
    show u1 (up X.1 (X.2 0 + 1) m v (X.2 0 + 1)) m u x = _
    rw [up_row]
    unfold u1
    split <;> simp_all
  · rw [up_ne q, up_ne q, h.1 i hi]
    exact up_ne q
theorem kw_id (X : XS) (m : Nat) : kw X m (X.1 (X.2 0 + 1) m) = X := by
  unfold kw
  refine Prod.ext ?_ rfl
  funext i
  show up X.1 (X.2 0 + 1) m _ i = X.1 i
  by_cases q : i = X.2 0 + 1
  · subst q
    rw [up_row]
    funext x
    unfold u1
    split
    · rename_i e; rw [e]
    · rfl
  · rw [up_ne q]
def km (X : XS) (m : Nat) (v : Int) : XS := (up X.1 47 m v, X.2)
theorem km_ne {X : XS} {m i : Nat} {v : Int} (hi : i ≠ 47) : (km X m v).1 i = X.1 i := by show up X.1 47 m v i = X.1 i; exact up_ne hi
theorem km_hm {X : XS} (h : J X) {m : Nat} {v : Int} (hv : 0 ≤ v ∧ v ≤ 2) : HM (DK X m v) (km X m v) := by
  obtain ⟨a1, a2, a3, a4, a5⟩ := h.hm
  refine ⟨?_, dk_dr h hv, fun x hx => ?_, fun x hx => ?_, fun x o hx ho => ?_⟩
  · show up X.1 47 m v 43 7 = _
    rw [up_ne (by decide)]
    exact a1
  · obtain ⟨b1, b2, b3, b4⟩ := a3 x hx
    refine ⟨?_, ?_, ?_, ?_⟩
    · show up X.1 47 m v 47 x = u1 (X.1 47) m v x
      rw [up_row]
    · show up X.1 47 m v 48 x = _
      rw [up_ne (by decide)]
      exact b2
    · show up X.1 47 m v 49 x = _
      rw [up_ne (by decide)]
      exact b3
    · show up X.1 47 m v 50 x = _
      rw [up_ne (by decide)]
      exact b4
  · show (0 < up X.1 47 m v 43 6 ∧ up X.1 47 m v 43 6 ≤ 5) ∧ 0 ≤ up X.1 47 m v 51 x ∧ up X.1 47 m v 51 x < 20
    rw [up_ne (show (43 : Nat) ≠ 47 by decide), up_ne (show (51 : Nat) ≠ 47 by decide)]
    exact a4 x hx
  · show fr (up X.1 47 m v 43 6) (up X.1 47 m v 51 x) (up X.1 47 m v 51 o) = _
    rw [up_ne (show (43 : Nat) ≠ 47 by decide), up_ne (show (51 : Nat) ≠ 47 by decide)]
    exact a5 x o hx ho
theorem km_smo {X : XS} (h : J X) {m : Nat} {v : Int} : SMo (DK X m v) (km X m v) (SS X) := by
  have := h.smo
  unfold SMo at this ⊢
  rw [show (km X m v).1 43 = X.1 43 from km_ne (by decide), show (km X m v).1 53 = X.1 53 from km_ne (by decide), show (km X m v).1 54 = X.1 54 from km_ne (by decide)]
  exact this
theorem km_mf {X Z : XS} {m : Nat} {v u : Int} (h : MF (km X m v) Z) : MF (km X m u) (up Z.1 47 m u, Z.2) := by
  refine ⟨h.1, fun i hi => ?_⟩
  show up Z.1 47 m u i = up X.1 47 m u i
  by_cases q : i = 47
  · subst q
    rw [up_row, up_row, h.2 _ hi]
    funext x
    show u1 (up X.1 47 m v 47) m u x = _
    rw [up_row]
    unfold u1
    split <;> simp_all
  · rw [up_ne q, up_ne q, h.2 i hi]
    exact up_ne q
theorem km_id (X : XS) (m : Nat) : km X m (X.1 47 m) = X := by
  unfold km
  refine Prod.ext ?_ rfl
  funext i
  show up X.1 47 m _ i = X.1 i
  by_cases q : i = 47
  · subst q
    rw [up_row]
    funext x
    unfold u1
    split
    · rename_i e; rw [e]
    · rfl
  · rw [up_ne q]
def kd (X : XS) (m v : Nat) : Int := bi (so X (run (DK X m (v : Int)) (X.1 43 13) (SS X) (-9) 30).2.2.2)
def a_kinds (a : Int) (X : XS) : Int := if 0 ≤ a ∧ a < X.1 43 7 then ((bsN (kd X a.toNat) 3 : Nat) : Int) else -1
theorem p_kinds (w : WD) (a : Int) : PAIR w M_Tf_kinds M_Mo_kinds [.inl a] := by
  refine PAIR.ask (a_kinds a) (fun X Y h => ?_) (fun X h => ?_) (fun X h => ?_)
  · have e : kd Y a.toNat = kd X a.toNat := by
      funext k
      unfold kd
      rw [h.seen, h.dk, h.ss, h 43 (by omega)]
    unfold a_kinds
    rw [e, h 43 (by omega)]
  · have hn := h.n
    have A := c_has w X (X.2 0) a
    rw [h.2.2.1.2.1] at A
    unfold a_kinds
    refine mk_Tf_kinds rfl ?_
    refine sx_Tf_kinds ?_
    refine ⟨h.b0, trivial, _, A, fun z Y hq => ?_⟩
    obtain ⟨rfl, rfl⟩ := hq
    refine sx_Tf_kinds ?_
    refine ⟨fun q => ?_, fun q => ⟨trivial, CS.rf Y, by rw [if_neg (nif q)]⟩⟩
    have h1 := pif q
    rw [if_pos h1]
    obtain ⟨m, rfl⟩ := Int.eq_ofNat_of_zero_le h1.1
    have hm : m < nM Y := by omega
    have hb := h.b2
    refine tx_Tf_kinds 10 ?_
    refine ⟨h.b0, (by omega), (by show _ < ((9 : Nat) : Int); omega), ?_⟩
    have L : ∀ j : Nat, j ≤ 3 → ∀ (c s : Int) (Z : XS) (v : Int), c = (j : Int) → s = ((bsN (kd Y m) j : Nat) : Int) → CS (kw Y m v) Z → Go w K_Tf_kinds 28 [some (.inr (.inr (6, 1))), some (.inl (m : Int)), some (.inl (Y.1 (Y.2 0 + 1) m)), some (.inl s), some (.inl c)] [] Z (fun z Z => CS Y Z ∧ z = ((bsN (kd Y m) 3 : Nat) : Int)) := by
      refine lp ?_
      intro j hj ih c s Z v hc hs hC
      subst hc
      subst hs
      have e0 : Z.2 0 = Y.2 0 := hC.2.1
      refine sx_Tf_kinds ?_
      refine ⟨fun q => ?_, fun q => ?_⟩
      · have e : j = 3 := by omega
        subst e
        refine sx_Tf_kinds ?_
        refine ⟨by omega, (by omega), (by show _ < ((9 : Nat) : Int); omega), trivial, ?_, rfl⟩
        have := kw_cs (u := Y.1 (Y.2 0 + 1) m) hC hb
        rw [kw_id] at this
        exact this
      · have hjn : j < 3 := by omega
        have hC' := kw_cs (u := (j : Int)) hC hb
        have hB := (kw_hb h (m := m) (v := (j : Int)) (by omega)).cs hC'
        have hS := sc_cs (kw_sc h (m := m) (v := (j : Int))) hC'
        have hL : (up Z.1 (Z.2 0 + 1) m (j : Int)) 1 9 = Y.1 43 13 := by
          rw [show (up Z.1 (Z.2 0 + 1) m (j : Int)) 1 = (kw Y m (j : Int)).1 1 from hC'.1 1 (by omega)]
          rw [show (kw Y m (j : Int)).1 1 = Y.1 1 from up_ne (by omega)]
          exact h.2.2.2.1.1
        have B := c_leftG w (X := (up Z.1 (Z.2 0 + 1) m (j : Int), Z.2)) (by rw [← e0] at hB; exact hB) hL h.law hS
        refine ⟨by omega, (by omega), (by show _ < ((9 : Nat) : Int); omega), trivial, _, B, fun z Z1 hq => ?_⟩
        obtain ⟨g1, g2, -⟩ := hq
        have g1 := hC'.tr g1
        have C := c_areSo w h (Y := Z1) (fun i a b => by rw [g1.1 i (by omega)]; exact up_ne (by omega)) (g2.fell)
        refine sx_Tf_kinds ?_
        refine ⟨trivial, _, C, fun z Z2 hq => ?_⟩
        obtain ⟨rfl, rfl⟩ := hq
        refine sx_Tf_kinds ?_
        refine ⟨fun q => ?_, fun q => ?_⟩
        · refine sx_Tf_kinds ?_
          exact ih hjn _ _ _ _ (w1 rfl (by omega)) (by rw [bsN_s, if_neg (show ¬ kd Y m j = 1 from bi0 q)]) g1
        · refine ⟨(by omega), (by omega), ?_⟩
          exact ih hjn _ _ _ _ (w1 rfl (by omega)) (by
            show io _ (wr (1 * 2 ^ j)) = _
            rw [sh1 (by omega), bo1 (bs512 (by omega)) (by omega), bsN_s, if_pos (show kd Y m j = 1 from bin q)]) g1
    exact L 0 (Nat.zero_le _) 0 0 Y (Y.1 (Y.2 0 + 1) m) rfl rfl (by rw [kw_id]; exact CS.rf Y)
  · have hn := h.n
    unfold a_kinds
    refine mk_Mo_kinds rfl ?_
    refine sx_Mo_kinds ?_
    refine ⟨trivial, _, mo_isMan w X a, fun z Y hq => ?_⟩
    obtain ⟨rfl, rfl⟩ := hq
    refine sx_Mo_kinds ?_
    refine ⟨fun q => ?_, fun q => ⟨trivial, ME.rf Y, by rw [if_neg (nif q)]⟩⟩
    have h1 := pif q
    rw [if_pos h1]
    obtain ⟨m, rfl⟩ := Int.eq_ofNat_of_zero_le h1.1
    have hm : m < nM Y := by omega
    refine tx_Mo_kinds 9 ?_
    refine ⟨(by omega), (by show _ < ((9 : Nat) : Int); omega), ?_⟩
    have L : ∀ j : Nat, j ≤ 3 → ∀ (c s : Int) (Z : XS) (v : Int), c = (j : Int) → s = ((bsN (kd Y m) j : Nat) : Int) → MF (km Y m v) Z → Go w K_Mo_kinds 22 [some (.inr (.inr (7, 43))), some (.inl (m : Int)), some (.inl (Y.1 47 m)), some (.inl s), some (.inl c)] [] Z (fun z Z => ME Y Z ∧ z = ((bsN (kd Y m) 3 : Nat) : Int)) := by
      refine lp ?_
      intro j hj ih c s Z v hc hs hM
      subst hc
      subst hs
      refine sx_Mo_kinds ?_
      refine ⟨fun q => ?_, fun q => ?_⟩
      · have e : j = 3 := by omega
        subst e
        refine sx_Mo_kinds ?_
        refine ⟨(by omega), (by show _ < ((9 : Nat) : Int); omega), trivial, ?_, rfl⟩
        have := km_mf (u := Y.1 47 m) hM
        rw [km_id] at this
        exact this.me
      · have hjn : j < 3 := by omega
        have hM' := km_mf (u := (j : Int)) hM
        have r43 : (up Z.1 47 m (j : Int)) 43 = Y.1 43 := (hM'.2 43 (by omega)).trans (show (km Y m (j : Int)).1 43 = Y.1 43 from km_ne (by decide))
        have A := mo_areSo w (X := Y) (Y := (up Z.1 47 m (j : Int), Z.2)) (law := Y.1 43 13) (ab := -9) h ⟨by rw [show (up Z.1 47 m (j : Int), Z.2).1 43 = Y.1 43 from r43], (hM'.2 60 (by omega)).trans (show (km Y m (j : Int)).1 60 = Y.1 60 from km_ne (by decide)), (hM'.2 61 (by omega)).trans (show (km Y m (j : Int)).1 61 = Y.1 61 from km_ne (by decide)), (hM'.2 62 (by omega)).trans (show (km Y m (j : Int)).1 62 = Y.1 62 from km_ne (by decide))⟩ (D := DK Y m (j : Int)) rfl ((km_hm h (by omega)).mf hM') (smo_mf (km_smo h) hM') (by rw [show (up Z.1 47 m (j : Int), Z.2).1 43 = Y.1 43 from r43]) (by rw [show (up Z.1 47 m (j : Int), Z.2).1 43 = Y.1 43 from r43]; exact h.2.2.2.2.2.2.2.1)
        refine ⟨(by omega), (by show _ < ((9 : Nat) : Int); omega), trivial, _, A, fun z Z2 hq => ?_⟩
        obtain ⟨g3, rfl⟩ := hq
        have g3 := hM'.tr g3
        have NX : ∀ t : Int, io ((bsN (kd Y m) j : Nat) : Int) t = ((bsN (kd Y m) (j + 1) : Nat) : Int) → Go w K_Mo_kinds 52 [some (.inr (.inr (7, 43))), some (.inl (m : Int)), some (.inl (Y.1 47 m)), some (.inl ((bsN (kd Y m) j : Nat) : Int)), some (.inl (j : Int))] [.inl t, .inl ((bsN (kd Y m) j : Nat) : Int)] Z2 (fun z Z => ME Y Z ∧ z = ((bsN (kd Y m) 3 : Nat) : Int)) := by
          intro t ht
          refine sx_Mo_kinds ?_
          exact ih hjn _ _ _ _ (w1 rfl (by omega)) ht g3
        refine sx_Mo_kinds ?_
        refine ⟨fun q => ?_, fun q => ?_⟩
        · refine tx_Mo_kinds 1 ?_
          exact NX 0 (by rw [bo0 (bs512 (by omega)), bsN_s, if_neg (show ¬ kd Y m j = 1 from bi0 q)])
        · refine ⟨(by omega), (by omega), ?_⟩
          refine NX _ ?_
          show io _ (wr (1 * 2 ^ j)) = _
          rw [sh1 (by omega), bo1 (bs512 (by omega)) (by omega), bsN_s, if_pos (show kd Y m j = 1 from bin q)]
    exact L 0 (Nat.zero_le _) 0 0 Y (Y.1 47 m) rfl rfl (by rw [km_id]; exact MF.rf Y)
