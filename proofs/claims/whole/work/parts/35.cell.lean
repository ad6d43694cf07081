/-! ===== cell ===== -/
theorem mo_lost (w : WD) (X : XS) (b : Int) : MS w M_Mo_lost [.inr (.inr (7, 43)), .inl b] X (fun z Y => Y = (up X.1 43 0 b, X.2) ∧ z = -9223372036854775808) := by
  refine mk_Mo_lost rfl ?_
  refine sx_Mo_lost ?_
  exact ⟨kc_Mo_81, rfl, rfl⟩
def cef (X : XS) (k : Nat) (b i : Int) : Int := if X.1 44 k = -9 then 1 else if X.1 44 k ≠ b then 2 else if 0 ≤ i ∧ i < X.1 45 k then 0 else 3
theorem cef1 {X : XS} {k : Nat} {b i : Int} (q : X.1 44 k = -9) : cef X k b i = 1 := by unfold cef; rw [if_pos q]
theorem cef2 {X : XS} {k : Nat} {b i : Int} (q : ¬ X.1 44 k = -9) (q2 : X.1 44 k ≠ b) : cef X k b i = 2 := by unfold cef; rw [if_neg q, if_pos q2]
theorem cef0 {X : XS} {k : Nat} {b i : Int} (q : ¬ X.1 44 k = -9) (q2 : X.1 44 k = b) (q3 : 0 ≤ i ∧ i < X.1 45 k) : cef X k b i = 0 := by unfold cef; rw [if_neg q, if_neg (fun z => z q2), if_pos q3]
theorem cef3 {X : XS} {k : Nat} {b i : Int} (q : ¬ X.1 44 k = -9) (q2 : X.1 44 k = b) (q3 : ¬ (0 ≤ i ∧ i < X.1 45 k)) : cef X k b i = 3 := by unfold cef; rw [if_neg q, if_neg (fun z => z q2), if_neg q3]
def cev (X : XS) (k : Nat) (b i : Int) : Int := if cef X k b i = 0 then X.1 46 (60 * k + i.toNat) else -9223372036854775808
theorem cev0 {X : XS} {k : Nat} {b i : Int} (h : cef X k b i = 0) : cev X k b i = X.1 46 (60 * k + i.toNat) := by unfold cev; rw [if_pos h]
theorem cevn {X : XS} {k : Nat} {b i : Int} (h : ¬ cef X k b i = 0) : cev X k b i = -9223372036854775808 := by unfold cev; rw [if_neg h]
theorem ix60 {k : Nat} {i : Int} (hk : k < 4) (hi : 0 ≤ i ∧ i < 60) : wr (wr (60 * (k : Int)) + i) = ((60 * k + i.toNat : Nat) : Int) := by
  rw [wr_id (z := 60 * (k : Int)) (by omega) (by omega), wr_id (by omega) (by omega)]; omega
theorem mo_cell1 (w : WD) {X Y : XS} (h : J X) (g : RM X Y) {k : Nat} (hk : k < 4) (i b : Int) (hb : 0 ≤ b ∧ b < 3) : MS w M_Mo_cell [.inr (.inr (7, 43)), .inl (k : Int), .inl i, .inl b] Y (fun z Z => SW 43 0 Y Z (cef X k b i) ∧ z = cev X k b i) := by
  have hS := h.1 k hk
  have S0 := SW.one 43 0 Y 0
  have r44 : up Y.1 43 0 0 44 k = X.1 44 k := by rw [up_ne (by omega), g 44 (by omega)]
  have r45 : up Y.1 43 0 0 45 k = X.1 45 k := by rw [up_ne (by omega), g 45 (by omega)]
  have r46 : up Y.1 43 0 0 46 = X.1 46 := by rw [up_ne (by omega), g 46 (by omega)]
  refine mk_Mo_cell rfl ?_
  refine sx_Mo_cell ?_
  refine ⟨trivial, _, mo_isSheet w _ (k : Int), fun z Z hq => ?_⟩
  obtain ⟨rfl, rfl⟩ := hq
  refine sx_Mo_cell ?_
  refine ⟨fun q => absurd (show 0 ≤ (k : Int) ∧ (k : Int) ≤ 3 by omega) (nif q), fun _ => ?_⟩
  refine ⟨trivial, _, mo_isSort w _ b, fun z Z hq => ?_⟩
  obtain ⟨rfl, rfl⟩ := hq
  refine sx_Mo_cell ?_
  refine ⟨fun _ => ?_, fun q => absurd (show 0 ≤ b ∧ b ≤ 2 by omega) (nif q)⟩
  have T50 : X.1 44 k = -9 ∨ X.1 44 k = b → Go w K_Mo_cell 50 [some (.inr (.inr (7, 43))), some (.inl (k : Int)), some (.inl i), some (.inl b)] [] (up Y.1 43 0 0, Y.2) (fun z Z => SW 43 0 Y Z (cef X k b i) ∧ z = cev X k b i) := by
    intro hs
    refine sx_Mo_cell ?_
    refine ⟨(by omega), by show _ < ((4 : Nat) : Int); omega, fun q => ?_, fun q => ?_⟩
    · have q : up Y.1 43 0 0 44 k ≠ -9 := q
      rw [r44] at q
      obtain ⟨a1, a2, a3, a4, a5, a6, a7, -⟩ := hS.resolve_left (fun z => q z.2)
      have B := mo_within w (up Y.1 43 0 0, Y.2) i 0 (wr (up Y.1 43 0 0 45 k - 1))
      refine sx_Mo_cell ?_
      refine ⟨(by omega), by show _ < ((4 : Nat) : Int); omega, trivial, _, B, fun z Z hq => ?_⟩
      obtain ⟨rfl, rfl⟩ := hq
      rw [r45, wr_id (by omega) (by omega)]
      refine sx_Mo_cell ?_
      refine ⟨fun q2 => ?_, fun q2 => ?_⟩
      · have p := pif q2
        have p3 : 0 ≤ i ∧ i < X.1 45 k := by omega
        have e0 : cef X k b i = 0 := cef0 q (hs.resolve_left q) p3
        have e := ix60 (k := k) (i := i) hk (by omega)
        have b1 : (0 : Int) ≤ wr (wr (60 * (k : Int)) + i) := by rw [e]; exact Int.natCast_nonneg _
        have b2 : wr (wr (60 * (k : Int)) + i) < ((240 : Nat) : Int) := by rw [e]; omega
        have e2 : up Y.1 43 0 0 46 (wr (wr (60 * (k : Int)) + i)).toNat = cev X k b i := by rw [cev0 e0, e, Int.toNat_natCast, r46]
        have e3 : SW 43 0 Y (up Y.1 43 0 0, Y.2) (cef X k b i) := by rw [e0]; exact S0
        clear q2 p p3 a1 a2 a3 a4 a5 a6 a7 hS r44 r45 r46 S0 e e0 hs q B
        refine sx_Mo_cell ?_
        exact ⟨b1, b2, e3, e2⟩
      · have e0 : cef X k b i = 3 := cef3 q (hs.resolve_left q) (fun z => nif q2 (by omega))
        rw [e0, cevn (by rw [e0]; decide)]
        refine ⟨trivial, _, mo_lost w _ 3, fun z Z hq => ?_⟩
        obtain ⟨rfl, rfl⟩ := hq
        refine sx_Mo_cell ?_
        exact ⟨S0.tr (SW.one 43 0 _ 3), rfl⟩
    · have q : up Y.1 43 0 0 44 k = -9 := q
      rw [r44] at q
      have e0 : cef X k b i = 1 := cef1 q
      rw [e0, cevn (by rw [e0]; decide)]
      refine ⟨trivial, _, mo_lost w _ 1, fun z Z hq => ?_⟩
      obtain ⟨rfl, rfl⟩ := hq
      refine sx_Mo_cell ?_
      exact ⟨S0.tr (SW.one 43 0 _ 1), rfl⟩
  refine sx_Mo_cell ?_
  refine ⟨(by omega), by show _ < ((4 : Nat) : Int); omega, fun q => T50 (Or.inl (r44.symm.trans q)), fun q => ?_⟩
  have q : up Y.1 43 0 0 44 k ≠ -9 := q
  rw [r44] at q
  refine ⟨(by omega), by show _ < ((4 : Nat) : Int); omega, fun q2 => T50 (Or.inr (r44.symm.trans q2)), fun q2 => ?_⟩
  have q2 : up Y.1 43 0 0 44 k ≠ b := q2
  rw [r44] at q2
  have e0 : cef X k b i = 2 := cef2 q q2
  rw [e0, cevn (by rw [e0]; decide)]
  refine ⟨trivial, _, mo_lost w _ 2, fun z Z hq => ?_⟩
  obtain ⟨rfl, rfl⟩ := hq
  refine sx_Mo_cell ?_
  exact ⟨S0.tr (SW.one 43 0 _ 2), rfl⟩
theorem fof00 {X : XS} (h : J X) {k : Nat} (hk : k < 4) (b : Int) : fof X k b 0 0 = if X.1 44 k = -9 then 1 else if X.1 44 k ≠ b then 2 else 0 := by
  have hS := h.1 k hk
  unfold fof
  by_cases q : X.1 44 k = -9
  · rw [if_pos q, if_pos q]
  · obtain ⟨a1, a2, a3, a4, a5, a6, a7, -⟩ := hS.resolve_left (fun z => q z.2)
    rw [if_neg q, if_neg q, if_neg (show ¬ (0 : Int) < 0 by decide), if_pos (show ((0 : Int) ≤ 0 ∧ 0 ≤ X.1 45 k) ∧ 0 ≤ X.1 45 k - 0 by omega)]
theorem c_cell1 (w : WD) {X : XS} (h : J X) {k : Nat} (hk : k < 4) (i b : Int) (hb : 0 ≤ b ∧ b < 3) : MS w M_Tf_cell [.inr (.inr (6, 1)), .inl (k : Int), .inl i, .inl b] X (fun z Y => SW 1 11 X Y (cef X k b i) ∧ z = cev X k b i) := by
  have hS := h.1 k hk
  have S0 := SW.one 1 11 X 0
  have c1 : ∀ t, up X.1 1 11 t (3 + 2 * k) = X.1 (3 + 2 * k) := fun t => up_ne (by omega)
  have E := fof00 h hk b
  refine mk_Tf_cell rfl ?_
  refine sx_Tf_cell ?_
  refine ⟨trivial, _, c_isBelow w _ (k : Int) 4, fun z Y hq => ?_⟩
  obtain ⟨rfl, rfl⟩ := hq
  refine sx_Tf_cell ?_
  refine ⟨fun q => absurd (show 0 ≤ (k : Int) ∧ (k : Int) < 4 by omega) (nif q), fun _ => ?_⟩
  refine ⟨trivial, _, c_isBelow w _ b 3, fun z Y hq => ?_⟩
  obtain ⟨rfl, rfl⟩ := hq
  refine sx_Tf_cell ?_
  refine ⟨fun _ => ?_, fun q => absurd hb (nif q)⟩
  have T69 : ∀ Z : XS, SW 1 11 X Z (cef X k b i) → Go w K_Tf_cell 69 [some (.inr (.inr (6, 1))), some (.inl (k : Int)), some (.inl i), some (.inl b)] [] Z (fun z Y => SW 1 11 X Y (cef X k b i) ∧ z = cev X k b i) := by
    intro Z hZ
    refine sx_Tf_cell ?_
    refine ⟨fun q => ?_, fun q => ?_⟩
    · have q : Z.1 1 11 ≠ 0 := q
      rw [hZ.2.2.2] at q
      have e := cevn q
      clear E S0 c1 hS
      refine sx_Tf_cell ?_
      exact ⟨kc_Tf_188, hZ, e.symm⟩
    · have q : Z.1 1 11 = 0 := q
      rw [hZ.2.2.2] at q
      have e := cev0 q
      have n9 : ¬ X.1 44 k = -9 := fun z => by rw [cef1 z] at q; cases q
      have nb : X.1 44 k = b := Decidable.byContradiction (fun z => by rw [cef2 n9 z] at q; cases q)
      have ni : 0 ≤ i ∧ i < X.1 45 k := Decidable.byContradiction (fun z => by rw [cef3 n9 nb z] at q; cases q)
      obtain ⟨a1, a2, a3, a4, a5, a6, a7, a8⟩ := hS.resolve_left (fun z => n9 z.2)
      obtain ⟨j, rfl⟩ := Int.eq_ofNat_of_zero_le ni.1
      have r3 : Z.1 (3 + 2 * k) = X.1 (3 + 2 * k) := hZ.1 _ (by omega)
      have r4 : Z.1 (3 + 2 * k + 1) = X.1 (3 + 2 * k + 1) := hZ.1 _ (by omega)
      have A := c_at w (X := Z) (k := k) (i := j) hk (by rw [r3, a5]; exact ni.2) (by rw [r3, a5]; exact a7)
      have e2 : Z.1 (3 + 2 * k + 1) j = cev X k b (j : Int) := by rw [e, r4, a8 j (by omega), Int.toNat_natCast]
      refine ⟨(by omega), (by omega), trivial, _, A, fun z Z1 hq => ?_⟩
      obtain ⟨rfl, rfl⟩ := hq
      clear E S0 c1 hS a1 a2 a3 a4 a5 a6 a7 a8 ni A r3 r4 q n9 nb
      refine sx_Tf_cell ?_
      refine sx_Tf_cell ?_
      exact ⟨hZ, e2⟩
  refine sx_Tf_cell ?_
  refine ⟨(by omega), (by omega), trivial, _, c_foc w h hk (Y := (up X.1 1 11 0, X.2)) (c1 0) b 0 0, fun z Z hq => ?_⟩
  obtain ⟨rfl, rfl⟩ := hq
  rw [E]
  by_cases q : X.1 44 k = -9
  · rw [if_pos q]
    refine sx_Tf_cell ?_
    refine ⟨fun _ => T69 _ ?_, fun q2 => ?_⟩
    · rw [cef1 q]; exact S0.tr (SW.one 1 11 _ _)
    · have q2 : up (up X.1 1 11 0) 1 11 1 1 11 = 0 := q2
      rw [up_row, u1_s] at q2
      cases q2
  · rw [if_neg q]
    by_cases q1 : X.1 44 k = b
    · rw [if_neg (fun z => z q1)]
      obtain ⟨a1, a2, a3, a4, a5, a6, a7, a8⟩ := hS.resolve_left (fun z => q z.2)
      refine sx_Tf_cell ?_
      refine ⟨fun q2 => ?_, fun q2 => ?_⟩
      · have q2 : up (up X.1 1 11 0) 1 11 0 1 11 ≠ 0 := q2
        rw [up_row, u1_s] at q2
        exact absurd rfl q2
      · have r3 : up (up X.1 1 11 0) 1 11 0 (3 + 2 * k) 3 = X.1 45 k := by rw [up_ne (by omega), c1 0]; exact a5
        have S1 := S0.tr (SW.one 1 11 (up X.1 1 11 0, X.2) 0)
        have B := c_isBelow w (up (up X.1 1 11 0) 1 11 0, X.2) i (up (up X.1 1 11 0) 1 11 0 (3 + 2 * k) 3)
        refine ⟨(by omega), (by omega), trivial, _, B, fun z Z hq => ?_⟩
        obtain ⟨rfl, rfl⟩ := hq
        rw [r3]
        refine tx_Tf_cell 4 ?_
        refine ⟨fun q3 => T69 _ ?_, fun q3 => ?_⟩
        · rw [cef0 q q1 (pif q3)]; exact S1
        · refine T69 _ ?_
          rw [cef3 q q1 (nif q3)]; exact S1.tr (SW.one 1 11 _ _)
    · rw [if_pos q1]
      refine sx_Tf_cell ?_
      refine ⟨fun _ => T69 _ ?_, fun q2 => ?_⟩
      · rw [cef2 q q1]; exact S0.tr (SW.one 1 11 _ _)
      · have q2 : up (up X.1 1 11 0) 1 11 2 1 11 = 0 := q2
        rw [up_row, u1_s] at q2
        cases q2
theorem p_cell (w : WD) (a i b : Int) : PAIR w M_Tf_cell M_Mo_cell [.inl a, .inl i, .inl b] := by
  by_cases h1 : 0 ≤ a ∧ a < 4
  · obtain ⟨k, rfl⟩ := Int.eq_ofNat_of_zero_le h1.1
    have hk : k < 4 := by omega
    by_cases hb : 0 ≤ b ∧ b < 3
    · intro X h
      exact PAIR.flt1 h (c_cell1 w h hk i b hb) (fun Y g => mo_cell1 w h g hk i b hb)
    · refine PAIR.flt (fun _ => -9223372036854775808) (fun _ => 0) (fun X h => ?_) (fun X Y h g => ?_)
      · have S0 := SW.one 1 11 X 0
        refine mk_Tf_cell rfl ?_
        refine sx_Tf_cell ?_
        refine ⟨trivial, _, c_isBelow w _ (k : Int) 4, fun z Y hq => ?_⟩
        obtain ⟨rfl, rfl⟩ := hq
        refine sx_Tf_cell ?_
        refine ⟨fun q => absurd h1 (nif q), fun _ => ?_⟩
        refine ⟨trivial, _, c_isBelow w _ b 3, fun z Y hq => ?_⟩
        obtain ⟨rfl, rfl⟩ := hq
        refine sx_Tf_cell ?_
        exact ⟨fun q => absurd (pif q) hb, fun _ => ⟨kc_Tf_188, S0, rfl⟩⟩
      · have S0 := SW.one 43 0 Y 0
        refine mk_Mo_cell rfl ?_
        refine sx_Mo_cell ?_
        refine ⟨trivial, _, mo_isSheet w _ (k : Int), fun z Z hq => ?_⟩
        obtain ⟨rfl, rfl⟩ := hq
        refine sx_Mo_cell ?_
        refine ⟨fun q => absurd (show 0 ≤ (k : Int) ∧ (k : Int) ≤ 3 by omega) (nif q), fun _ => ?_⟩
        refine ⟨trivial, _, mo_isSort w _ b, fun z Z hq => ?_⟩
        obtain ⟨rfl, rfl⟩ := hq
        refine sx_Mo_cell ?_
        exact ⟨fun q => absurd (pif q) (fun z => hb (by omega)), fun _ => ⟨kc_Mo_81, S0, rfl⟩⟩
  · refine PAIR.flt (fun _ => -9223372036854775808) (fun _ => 0) (fun X h => ?_) (fun X Y h g => ?_)
    · have S0 := SW.one 1 11 X 0
      refine mk_Tf_cell rfl ?_
      refine sx_Tf_cell ?_
      refine ⟨trivial, _, c_isBelow w _ a 4, fun z Y hq => ?_⟩
      obtain ⟨rfl, rfl⟩ := hq
      refine sx_Tf_cell ?_
      refine ⟨fun _ => ?_, fun q => absurd (pif q) h1⟩
      refine sx_Tf_cell ?_
      exact ⟨kc_Tf_188, S0, rfl⟩
    · have S0 := SW.one 43 0 Y 0
      refine mk_Mo_cell rfl ?_
      refine sx_Mo_cell ?_
      refine ⟨trivial, _, mo_isSheet w _ a, fun z Z hq => ?_⟩
      obtain ⟨rfl, rfl⟩ := hq
      refine sx_Mo_cell ?_
      refine ⟨fun _ => ?_, fun q => absurd (pif q) (fun z => h1 (by omega))⟩
      refine sx_Mo_cell ?_
      exact ⟨kc_Mo_81, S0, rfl⟩
