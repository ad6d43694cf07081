/-! ===== trace and fault ===== -/
/-- only one number is other -/
def SW (i k : Nat) (X Y : XS) (t : Int) : Prop := (∀ j, j ≠ i → Y.1 j = X.1 j) ∧ Y.2 = X.2 ∧ (∀ j, j ≠ k → Y.1 i j = X.1 i j) ∧ Y.1 i k = t
theorem SW.one (i k : Nat) (X : XS) (t : Int) : SW i k X (up X.1 i k t, X.2) t := ⟨fun j hj => up_ne hj, rfl, fun j hj => by simp [up_g, hj], by simp [up_g]⟩
theorem SW.tr {i k : Nat} {X Y Z : XS} {t s : Int} (h : SW i k X Y t) (g : SW i k Y Z s) : SW i k X Z s := ⟨fun j hj => (g.1 j hj).trans (h.1 j hj), g.2.1.trans h.2.1, fun j hj => (g.2.2.1 j hj).trans (h.2.2.1 j hj), g.2.2.2⟩
theorem SW.rf (i k : Nat) (X : XS) : SW i k X X (X.1 i k) := ⟨fun _ _ => rfl, rfl, fun _ _ => rfl, rfl⟩
def TF (X Y : XS) : Prop := (∀ i, i ≠ 1 → i ≠ 43 → Y.1 i = X.1 i) ∧ Y.2 = X.2 ∧ (∀ k, k < 10 → Y.1 1 k = X.1 1 k) ∧ (∀ k, 2 ≤ k → Y.1 43 k = X.1 43 k) ∧ Y.1 1 10 = Y.1 43 1 ∧ Y.1 1 11 = Y.1 43 0
theorem J.tf {X Y : XS} (h : J X) (g : TF X Y) : J Y := by
  obtain ⟨h1, h2, h3, h4, h5, h6, h7⟩ := h
  obtain ⟨g1, g2, g3, g4, g5, g6⟩ := g
  have hb : X.2 0 = 27 ∨ X.2 0 = 35 := by rcases h2 with h | h <;> omega
  have s5 := g4 5 (by omega)
  have s6 := g4 6 (by omega)
  have s7 := g4 7 (by omega)
  have s13 := g4 13 (by omega)
  have s19 := g4 19 (by omega)
  have s29 := g4 29 (by omega)
  refine ⟨fun k hk => ?_, ?_, ?_, ?_, ?_, ?_, ?_⟩
  · rw [g1 (3 + 2 * k) (by omega) (by omega), g1 (3 + 2 * k + 1) (by omega) (by omega), g1 44 (by omega) (by omega), g1 45 (by omega) (by omega), g1 46 (by omega) (by omega)]
    exact h1 k hk
  · unfold JR; rw [g2]; exact h2
  · unfold JF nM
    rw [g2, s5, s6, s7, g3 8 (by omega), g1 47 (by omega) (by omega), g1 48 (by omega) (by omega), g1 49 (by omega) (by omega), g1 50 (by omega) (by omega), g1 51 (by omega) (by omega), g1 (X.2 0) (by omega) (by omega), g1 (X.2 0 + 1) (by omega) (by omega), g1 (X.2 0 + 2) (by omega) (by omega), g1 (X.2 0 + 3) (by omega) (by omega), g1 (X.2 0 + 4) (by omega) (by omega), g1 (X.2 0 + 5) (by omega) (by omega), g1 (X.2 0 + 6) (by omega) (by omega), g1 (X.2 0 + 7) (by omega) (by omega)]
    exact h3
  · unfold JL; rw [g3 9 (by omega), s13]; exact h4
  · unfold JT nS; rw [g1 17 (by omega) (by omega), g1 18 (by omega) (by omega), g1 19 (by omega) (by omega), s19, s7, g1 53 (by omega) (by omega), g1 54 (by omega) (by omega)]; exact h5
  · unfold JD nR; rw [g1 23 (by omega) (by omega), g1 24 (by omega) (by omega), g1 25 (by omega) (by omega), g1 26 (by omega) (by omega), s29, s7, g1 60 (by omega) (by omega), g1 61 (by omega) (by omega), g1 62 (by omega) (by omega)]; exact h6
  · unfold JX; rw [g4 22 (by omega), g4 23 (by omega)]; exact ⟨h7.1, h7.2.1, g5, g6⟩
theorem SW.rm {k : Nat} {X Y : XS} {t : Int} (h : SW 1 k X Y t) : RM X Y := fun i hi => h.1 i (by omega)
theorem tf_tr {X Y Z : XS} {t : Int} (hJ : J X) (h : SW 1 10 X Y t) (g : SW 43 1 Y Z t) : TF X Z := by
  obtain ⟨h1, h2, h3, h4⟩ := h
  obtain ⟨g1, g2, g3, g4⟩ := g
  refine ⟨fun i a b => (g1 i b).trans (h1 i a), g2.trans h2, fun k hk => ?_, fun k hk => ?_, ?_, ?_⟩
  · rw [g1 1 (by omega)]; exact h3 k (by omega)
  · rw [g3 k (by omega), h1 43 (by omega)]
  · rw [g1 1 (by omega), h4, g4]
  · rw [g1 1 (by omega), h3 11 (by omega), g3 0 (by omega), h1 43 (by omega)]; exact hJ.2.2.2.2.2.2.2.2.2
theorem tf_fa {X Y Z : XS} {t : Int} (hJ : J X) (h : SW 1 11 X Y t) (g : SW 43 0 Y Z t) : TF X Z := by
  obtain ⟨h1, h2, h3, h4⟩ := h
  obtain ⟨g1, g2, g3, g4⟩ := g
  refine ⟨fun i a b => (g1 i b).trans (h1 i a), g2.trans h2, fun k hk => ?_, fun k hk => ?_, ?_, ?_⟩
  · rw [g1 1 (by omega)]; exact h3 k (by omega)
  · rw [g3 k (by omega), h1 43 (by omega)]
  · rw [g1 1 (by omega), h3 10 (by omega), g3 1 (by omega), h1 43 (by omega)]; exact hJ.2.2.2.2.2.2.2.2.1
  · rw [g1 1 (by omega), h4, g4]
theorem PAIR.trc {w : WD} {c m : MI} {as : List V} (f g : XS → Int) (hc : ∀ X, J X → MS w c (.inr (.inr (6, 1)) :: as) X (fun z Y => SW 1 10 X Y (g X) ∧ z = f X)) (hm : ∀ X Y, J X → RM X Y → MS w m (.inr (.inr (7, 43)) :: as) Y (fun z Z => SW 43 1 Y Z (g X) ∧ z = f X)) : PAIR w c m as := by
  intro X hJ
  refine ⟨_, hc X hJ, fun z Y hq => ?_⟩
  obtain ⟨h1, h2⟩ := hq
  refine ⟨_, hm X Y hJ h1.rm, fun z' Z hq' => ?_⟩
  obtain ⟨h3, h4⟩ := hq'
  exact ⟨h4.trans h2.symm, hJ.tf (tf_tr hJ h1 h3)⟩
theorem PAIR.flt {w : WD} {c m : MI} {as : List V} (f g : XS → Int) (hc : ∀ X, J X → MS w c (.inr (.inr (6, 1)) :: as) X (fun z Y => SW 1 11 X Y (g X) ∧ z = f X)) (hm : ∀ X Y, J X → RM X Y → MS w m (.inr (.inr (7, 43)) :: as) Y (fun z Z => SW 43 0 Y Z (g X) ∧ z = f X)) : PAIR w c m as := by
  intro X hJ
  refine ⟨_, hc X hJ, fun z Y hq => ?_⟩
  obtain ⟨h1, h2⟩ := hq
  refine ⟨_, hm X Y hJ h1.rm, fun z' Z hq' => ?_⟩
  obtain ⟨h3, h4⟩ := hq'
  exact ⟨h4.trans h2.symm, hJ.tf (tf_fa hJ h1 h3)⟩
def tl (t b : Int) : Int := wr (wr (31 * t) + b)
theorem c_leave (w : WD) (X : XS) (b : Int) : MS w M_Tf_leave [.inr (.inr (6, 1)), .inl b] X (fun _ Y => SW 1 10 X Y (tl (X.1 1 10) b)) := by
  refine mk_Tf_leave rfl ?_
  refine sx_Tf_leave ?_
  exact SW.one 1 10 X _
theorem mo_begins (w : WD) (X : XS) (b : Int) : MS w M_Mo_begins [.inr (.inr (7, 43)), .inl b] X (fun _ Y => SW 43 1 X Y (tl (X.1 43 1) b)) := by
  refine mk_Mo_begins rfl ?_
  refine sx_Mo_begins ?_
  exact SW.one 43 1 X _
theorem c_faulted (w : WD) (X : XS) (b : Int) : MS w M_Tf_faulted [.inr (.inr (6, 1)), .inl b] X (fun z Y => Y = (up X.1 1 11 b, X.2) ∧ z = wr (-10 - b)) := by
  refine mk_Tf_faulted rfl ?_
  refine sx_Tf_faulted ?_
  exact ⟨trivial, rfl, rfl⟩
theorem mo_fails (w : WD) (X : XS) (b : Int) : MS w M_Mo_fails [.inr (.inr (7, 43)), .inl b] X (fun z Y => Y = (up X.1 43 0 b, X.2) ∧ z = wr (-10 - b)) := by
  refine mk_Mo_fails rfl ?_
  refine sx_Mo_fails ?_
  exact ⟨trivial, rfl, rfl⟩
/-! swear -/
def a_swear (a : Int) (X : XS) : Int := if 0 ≤ a ∧ a < X.1 43 7 then (if X.1 47 a.toNat = 2 then 20 else a) else -1
def t_swear (a : Int) (X : XS) : Int := if 0 ≤ a ∧ a < X.1 43 7 then (if X.1 47 a.toNat = 2 then tl (X.1 43 1) 5 else tl (X.1 43 1) 4) else X.1 43 1
theorem p_swear (w : WD) (a : Int) : PAIR w M_Tf_swear M_Mo_swear [.inl a] := by
  refine PAIR.trc (a_swear a) (t_swear a) (fun X h => ?_) (fun X Y h g => ?_)
  · have hn := h.n
    have ht : X.1 1 10 = X.1 43 1 := h.2.2.2.2.2.2.2.2.1
    have A := c_has w X (X.2 0) a
    rw [h.2.2.1.2.1] at A
    unfold a_swear t_swear
    refine mk_Tf_swear rfl ?_
    refine sx_Tf_swear ?_
    refine ⟨h.b0, trivial, _, A, fun z Y hq => ?_⟩
    obtain ⟨rfl, rfl⟩ := hq
    refine sx_Tf_swear ?_
    refine ⟨fun q => ?_, fun q => ⟨trivial, by rw [if_neg (nif q), ← ht]; exact SW.rf 1 10 Y, by rw [if_neg (nif q)]⟩⟩
    have h1 := pif q
    rw [if_pos h1, if_pos h1]
    have e1 := (h.2.2.1.2.2.2.2.1 a.toNat (by show _ < nM Y; omega)).1
    refine sx_Tf_swear ?_
    refine ⟨h.b0, h1.1, (by show _ < ((9 : Nat) : Int); omega), fun q2 => ?_, fun q2 => ?_⟩
    · have q2 : Y.1 (Y.2 0 + 1) a.toNat ≠ 2 := q2
      rw [e1] at q2
      rw [if_neg q2, if_neg q2]
      refine sx_Tf_swear ?_
      refine ⟨trivial, _, c_leave w Y 4, fun z Y1 hq => ?_⟩
      refine sx_Tf_swear ?_
      exact ⟨trivial, by rw [← ht]; exact hq, rfl⟩
    · have q2 : Y.1 (Y.2 0 + 1) a.toNat = 2 := q2
      rw [e1] at q2
      rw [if_pos q2, if_pos q2]
      refine ⟨trivial, _, c_leave w Y 5, fun z Y1 hq => ?_⟩
      refine sx_Tf_swear ?_
      exact ⟨trivial, by rw [← ht]; exact hq, rfl⟩
  · have hn := h.n
    have r43 := g 43 (by omega)
    have r47 := g 47 (by omega)
    unfold a_swear t_swear
    rw [← r43, ← r47]
    rw [← r43] at hn
    refine mk_Mo_swear rfl ?_
    refine sx_Mo_swear ?_
    refine ⟨trivial, _, mo_isMan w Y a, fun z Y1 hq => ?_⟩
    obtain ⟨rfl, rfl⟩ := hq
    refine sx_Mo_swear ?_
    refine ⟨fun q => ?_, fun q => ⟨trivial, by rw [if_neg (nif q)]; exact SW.rf 43 1 Y1, by rw [if_neg (nif q)]⟩⟩
    have h1 := pif q
    rw [if_pos h1, if_pos h1]
    refine sx_Mo_swear ?_
    refine ⟨h1.1, (by show _ < ((9 : Nat) : Int); omega), fun q2 => ?_, fun q2 => ?_⟩
    · have q2 : Y1.1 47 a.toNat ≠ 2 := q2
      rw [if_neg q2, if_neg q2]
      refine sx_Mo_swear ?_
      refine ⟨trivial, _, mo_begins w Y1 4, fun z Y2 hq => ?_⟩
      have r := hq.1 47 (by omega)
      refine sx_Mo_swear ?_
      refine ⟨h1.1, (by show _ < ((9 : Nat) : Int); omega), fun q3 => ?_, fun q3 => ?_⟩
      · refine sx_Mo_swear ?_
        exact ⟨trivial, hq, rfl⟩
      · have q3 : Y2.1 47 a.toNat = 2 := q3
        rw [r] at q3
        exact absurd q3 q2
    · have q2 : Y1.1 47 a.toNat = 2 := q2
      rw [if_pos q2, if_pos q2]
      refine sx_Mo_swear ?_
      refine ⟨trivial, _, mo_begins w Y1 5, fun z Y2 hq => ?_⟩
      have r := hq.1 47 (by omega)
      refine sx_Mo_swear ?_
      refine ⟨h1.1, (by show _ < ((9 : Nat) : Int); omega), fun q3 => ?_, fun q3 => ?_⟩
      · have q3 : Y2.1 47 a.toNat ≠ 2 := q3
        rw [r] at q3
        exact absurd q2 q3
      · refine sx_Mo_swear ?_
        exact ⟨trivial, hq, rfl⟩
/-! tell -/
def a_tell (a : Int) (X : XS) : Int := if 0 ≤ a ∧ a < X.1 43 7 then (if X.1 47 a.toNat = 0 then X.1 49 a.toNat else if X.1 47 a.toNat = 1 then X.1 49 a.toNat + 100 else 2 * X.1 49 a.toNat + 100) else -1
def t_tell (a : Int) (X : XS) : Int := if 0 ≤ a ∧ a < X.1 43 7 then (if X.1 47 a.toNat = 0 then tl (X.1 43 1) 1 else if X.1 47 a.toNat = 1 then tl (tl (X.1 43 1) 2) 1 else tl (tl (tl (tl (X.1 43 1) 3) 2) 1) 1) else X.1 43 1
theorem c_tMan (w : WD) {X : XS} {s : Int} {m : Nat} (hb : X.2 0 = 27 ∨ X.2 0 = 35) (hm : m < 9) (hs : X.1 (X.2 0 + 3) m = s) : MS w M_Tf_toldAsMan [.inr (.inr (6, 1)), .inl (m : Int)] X (fun z Y => SW 1 10 X Y (tl (X.1 1 10) 1) ∧ z = s) := by
  refine mk_Tf_toldAsMan rfl ?_
  refine sx_Tf_toldAsMan ?_
  refine ⟨trivial, _, c_leave w X 1, fun z Y hq => ?_⟩
  have e : Y.2 0 = X.2 0 := by rw [hq.2.1]
  refine sx_Tf_toldAsMan ?_
  refine ⟨by rw [e]; omega, (by omega), (by show _ < ((9 : Nat) : Int); omega), trivial, hq, ?_⟩
  show Y.1 (Y.2 0 + 3) m = s
  rw [e, hq.1 _ (by omega), hs]
theorem c_tLame (w : WD) {X : XS} {s : Int} {m : Nat} (hb : X.2 0 = 27 ∨ X.2 0 = 35) (hm : m < 9) (hs : X.1 (X.2 0 + 3) m = s) (hs9 : 1 ≤ s ∧ s ≤ 9) : MS w M_Tf_toldAsLame [.inr (.inr (6, 1)), .inl (m : Int)] X (fun z Y => SW 1 10 X Y (tl (tl (X.1 1 10) 2) 1) ∧ z = s + 100) := by
  refine mk_Tf_toldAsLame rfl ?_
  refine sx_Tf_toldAsLame ?_
  refine ⟨trivial, _, c_leave w X 2, fun z Y hq => ?_⟩
  have e : Y.2 0 = X.2 0 := by rw [hq.2.1]
  have A := c_tMan w (X := Y) (s := s) (m := m) (by rw [e]; exact hb) hm (by rw [e, hq.1 _ (by omega), hs])
  rw [hq.2.2.2] at A
  refine sx_Tf_toldAsLame ?_
  refine ⟨trivial, _, A, fun z Y1 hq1 => ?_⟩
  obtain ⟨g1, rfl⟩ := hq1
  refine sx_Tf_toldAsLame ?_
  exact ⟨trivial, hq.tr g1, by show wr (_ + 100) = _; rw [wr_id (by omega) (by omega)]⟩
theorem c_tArcher (w : WD) {X : XS} {s : Int} {m : Nat} (hb : X.2 0 = 27 ∨ X.2 0 = 35) (hm : m < 9) (hs : X.1 (X.2 0 + 3) m = s) (hs9 : 1 ≤ s ∧ s ≤ 9) : MS w M_Tf_toldAsArcher [.inr (.inr (6, 1)), .inl (m : Int)] X (fun z Y => SW 1 10 X Y (tl (tl (tl (tl (X.1 1 10) 3) 2) 1) 1) ∧ z = 2 * s + 100) := by
  refine mk_Tf_toldAsArcher rfl ?_
  refine sx_Tf_toldAsArcher ?_
  refine ⟨trivial, _, c_leave w X 3, fun z Y hq => ?_⟩
  have e : Y.2 0 = X.2 0 := by rw [hq.2.1]
  have A := c_tLame w (X := Y) (s := s) (m := m) (by rw [e]; exact hb) hm (by rw [e, hq.1 _ (by omega), hs]) hs9
  rw [hq.2.2.2] at A
  refine sx_Tf_toldAsArcher ?_
  refine ⟨trivial, _, A, fun z Y1 hq1 => ?_⟩
  obtain ⟨g1, rfl⟩ := hq1
  have g2 := hq.tr g1
  have e2 : Y1.2 0 = X.2 0 := by rw [g2.2.1]
  have A := c_tMan w (X := Y1) (s := s) (m := m) (by rw [e2]; exact hb) hm (by rw [e2, g2.1 _ (by omega), hs])
  rw [g2.2.2.2] at A
  refine sx_Tf_toldAsArcher ?_
  refine ⟨trivial, _, A, fun z Y2 hq2 => ?_⟩
  obtain ⟨g3, rfl⟩ := hq2
  refine sx_Tf_toldAsArcher ?_
  exact ⟨trivial, g2.tr g3, by show wr (_ + _) = _; rw [wr_id (by omega) (by omega)]; omega⟩
theorem p_tell (w : WD) (a : Int) : PAIR w M_Tf_tell M_Mo_tell [.inl a] := by
  refine PAIR.trc (a_tell a) (t_tell a) (fun X h => ?_) (fun X Y h g => ?_)
  · have hn := h.n
    have ht : X.1 1 10 = X.1 43 1 := h.2.2.2.2.2.2.2.2.1
    have A := c_has w X (X.2 0) a
    rw [h.2.2.1.2.1] at A
    unfold a_tell t_tell
    refine mk_Tf_tell rfl ?_
    refine sx_Tf_tell ?_
    refine ⟨h.b0, trivial, _, A, fun z Y hq => ?_⟩
    obtain ⟨rfl, rfl⟩ := hq
    refine sx_Tf_tell ?_
    refine ⟨fun q => ?_, fun q => ⟨trivial, by rw [if_neg (nif q), ← ht]; exact SW.rf 1 10 Y, by rw [if_neg (nif q)]⟩⟩
    have h1 := pif q
    rw [if_pos h1, if_pos h1]
    obtain ⟨m, rfl⟩ := Int.eq_ofNat_of_zero_le h1.1
    have hm : m < nM Y := by omega
    obtain ⟨e1, -, e3, -⟩ := h.2.2.1.2.2.2.2.1 m hm
    obtain ⟨-, -, hs9, -⟩ := h.2.2.1.2.2.2.1 m hm
    have hb : Y.2 0 = 27 ∨ Y.2 0 = 35 := by rcases h.2.1 with h | h <;> omega
    rw [Int.toNat_natCast, ← ht, ← e1]
    refine sx_Tf_tell ?_
    refine ⟨h.b0, (by omega), (by show _ < ((9 : Nat) : Int); omega), fun q => ?_, fun q0 => ⟨fun q => ?_, fun q1 => ?_⟩⟩
    · have q : Y.1 (Y.2 0 + 1) m = 0 := q
      rw [if_pos q, if_pos q]
      refine sx_Tf_tell ?_
      refine ⟨trivial, _, c_tMan w hb (show m < 9 by omega) e3, fun z Y1 hq => ?_⟩
      refine sx_Tf_tell ?_
      exact ⟨trivial, hq⟩
    · have q : Y.1 (Y.2 0 + 1) m = 1 := q
      have n0 : ¬ Y.1 (Y.2 0 + 1) m = 0 := by omega
      rw [if_neg n0, if_neg n0, if_pos q, if_pos q]
      refine sx_Tf_tell ?_
      refine ⟨trivial, _, c_tLame w hb (show m < 9 by omega) e3 hs9, fun z Y1 hq => ?_⟩
      refine sx_Tf_tell ?_
      exact ⟨trivial, hq⟩
    · have q : Y.1 (Y.2 0 + 1) m ≠ 0 ∧ Y.1 (Y.2 0 + 1) m ≠ 1 ∧ True := ⟨q0, q1, trivial⟩
      rw [if_neg q.1, if_neg q.1, if_neg q.2.1, if_neg q.2.1]
      refine sx_Tf_tell ?_
      refine ⟨trivial, _, c_tArcher w hb (show m < 9 by omega) e3 hs9, fun z Y1 hq => ?_⟩
      refine sx_Tf_tell ?_
      exact ⟨trivial, hq⟩
  · have hn := h.n
    have r43 := g 43 (by omega)
    have r47 := g 47 (by omega)
    have r49 := g 49 (by omega)
    unfold a_tell t_tell
    refine mk_Mo_tell rfl ?_
    refine sx_Mo_tell ?_
    refine ⟨trivial, _, mo_isMan w Y a, fun z Y1 hq => ?_⟩
    obtain ⟨rfl, rfl⟩ := hq
    rw [r43]
    refine sx_Mo_tell ?_
    refine ⟨fun q => ?_, fun q => ⟨trivial, by rw [if_neg (nif q), ← r43]; exact SW.rf 43 1 Y1, by rw [if_neg (nif q)]⟩⟩
    have h1 := pif q
    rw [if_pos h1, if_pos h1]
    obtain ⟨m, rfl⟩ := Int.eq_ofNat_of_zero_le h1.1
    have hm : m < nM X := by omega
    obtain ⟨hk, -, hs9, -⟩ := h.2.2.1.2.2.2.1 m hm
    rw [Int.toNat_natCast, ← r43, ← r47, ← r49]
    rw [← r47] at hk
    rw [← r49] at hs9
    refine sx_Mo_tell ?_
    refine ⟨(by omega), (by show _ < ((9 : Nat) : Int); omega), (by omega), (by show _ < ((9 : Nat) : Int); omega), fun q => ?_, fun q0 => ⟨fun q => ?_, fun q1 => ?_⟩⟩
    · have q : Y1.1 47 m = 1 := q
      have n0 : ¬ Y1.1 47 m = 0 := by omega
      rw [if_neg n0, if_neg n0, if_pos q, if_pos q]
      refine sx_Mo_tell ?_
      refine ⟨trivial, _, mo_begins w Y1 2, fun z Y2 hq => ?_⟩
      have B := mo_begins w Y2 1
      rw [hq.2.2.2] at B
      refine sx_Mo_tell ?_
      refine ⟨trivial, _, B, fun z Y3 hq3 => ?_⟩
      refine sx_Mo_tell ?_
      exact ⟨trivial, hq.tr hq3, by show wr (Y1.1 49 m + 100) = _; rw [wr_id (by omega) (by omega)]⟩
    · have q : Y1.1 47 m = 2 := q
      have n0 : ¬ Y1.1 47 m = 0 := by omega
      have n1 : ¬ Y1.1 47 m = 1 := by omega
      rw [if_neg n0, if_neg n0, if_neg n1, if_neg n1]
      refine sx_Mo_tell ?_
      refine ⟨trivial, _, mo_begins w Y1 3, fun z Y2 hq => ?_⟩
      have B := mo_begins w Y2 2
      rw [hq.2.2.2] at B
      refine sx_Mo_tell ?_
      refine ⟨trivial, _, B, fun z Y3 hq3 => ?_⟩
      have B := mo_begins w Y3 1
      rw [hq3.2.2.2] at B
      refine sx_Mo_tell ?_
      refine ⟨trivial, _, B, fun z Y4 hq4 => ?_⟩
      have B := mo_begins w Y4 1
      rw [hq4.2.2.2] at B
      refine sx_Mo_tell ?_
      refine ⟨trivial, _, B, fun z Y5 hq5 => ?_⟩
      refine sx_Mo_tell ?_
      refine ⟨trivial, ((hq.tr hq3).tr hq4).tr hq5, ?_⟩
      show wr (wr (2 * Y1.1 49 m) + 100) = _
      rw [wr_id (z := 2 * Y1.1 49 m) (by omega) (by omega), wr_id (by omega) (by omega)]
    · have q : Y1.1 47 m ≠ 1 ∧ Y1.1 47 m ≠ 2 ∧ True := ⟨q0, q1, trivial⟩
      have n0 : Y1.1 47 m = 0 := by omega
      rw [if_pos n0, if_pos n0]
      refine sx_Mo_tell ?_
      refine ⟨trivial, _, mo_begins w Y1 1, fun z Y2 hq => ?_⟩
      refine sx_Mo_tell ?_
      exact ⟨trivial, hq, rfl⟩
/-! as -/
def a_as (a k : Int) (X : XS) : Int := if 0 ≤ a ∧ a < X.1 43 7 then (if 0 ≤ k ∧ k < 3 then (if k ≤ X.1 47 a.toNat then 1 else -12) else -2) else -1
def t_as (a k : Int) (X : XS) : Int := if 0 ≤ a ∧ a < X.1 43 7 then (if 0 ≤ k ∧ k < 3 then (if k ≤ X.1 47 a.toNat then 0 else 2) else 0) else 0
theorem p_as (w : WD) (a k : Int) : PAIR w M_Tf_as M_Mo_as [.inl a, .inl k] := by
  refine PAIR.flt (a_as a k) (t_as a k) (fun X h => ?_) (fun X Y h g => ?_)
  · have hn := h.n
    have hb : X.2 0 = 27 ∨ X.2 0 = 35 := by rcases h.2.1 with h | h <;> omega
    have S0 := SW.one 1 11 X 0
    have A := c_has w (up X.1 1 11 0, X.2) (X.2 0) a
    have e : up X.1 1 11 0 (X.2 0) 9 = X.1 43 7 := by rw [up_ne (by omega)]; exact h.2.2.1.2.1
    rw [show (up X.1 1 11 0, X.2).1 (X.2 0) 9 = X.1 43 7 from e] at A
    unfold a_as t_as
    refine mk_Tf_as rfl ?_
    refine sx_Tf_as ?_
    refine ⟨h.b0, trivial, _, A, fun z Y hq => ?_⟩
    obtain ⟨rfl, rfl⟩ := hq
    refine sx_Tf_as ?_
    refine ⟨fun q => ?_, fun q => ⟨trivial, by rw [if_neg (nif q)]; exact S0, by rw [if_neg (nif q)]⟩⟩
    have h1 := pif q
    rw [if_pos h1, if_pos h1]
    have e1 := (h.2.2.1.2.2.2.2.1 a.toNat (by show _ < nM X; omega)).1
    refine sx_Tf_as ?_
    refine ⟨trivial, _, c_isBelow w _ k 3, fun z Y hq => ?_⟩
    obtain ⟨rfl, rfl⟩ := hq
    refine sx_Tf_as ?_
    refine ⟨fun q => ?_, fun q => ⟨trivial, by rw [if_neg (nif q)]; exact S0, by rw [if_neg (nif q)]⟩⟩
    have h2 := pif q
    rw [if_pos h2, if_pos h2]
    have ek : up X.1 1 11 0 (X.2 0 + 1) a.toNat = X.1 47 a.toNat := by rw [up_ne (by omega)]; exact e1
    refine sx_Tf_as ?_
    refine ⟨h.b0, h1.1, (by show _ < ((9 : Nat) : Int); omega), fun q => ?_, fun q => ?_⟩
    · have q : up X.1 1 11 0 (X.2 0 + 1) a.toNat < k := q
      rw [ek] at q
      rw [if_neg (Int.not_le.mpr q), if_neg (Int.not_le.mpr q)]
      refine sx_Tf_as ?_
      refine ⟨trivial, _, c_faulted w _ 2, fun z Y hq => ?_⟩
      obtain ⟨rfl, rfl⟩ := hq
      refine sx_Tf_as ?_
      exact ⟨trivial, S0.tr (SW.one 1 11 _ 2), by decide⟩
    · have q : k ≤ up X.1 1 11 0 (X.2 0 + 1) a.toNat := q
      rw [ek] at q
      rw [if_pos q, if_pos q]
      refine sx_Tf_as ?_
      exact ⟨trivial, S0, rfl⟩
  · have hn := h.n
    have r43 := g 43 (by omega)
    have r47 := g 47 (by omega)
    unfold a_as t_as
    rw [← r43, ← r47]
    rw [← r43] at hn
    have S0 := SW.one 43 0 Y 0
    have A := mo_isMan w (up Y.1 43 0 0, Y.2) a
    have e : up Y.1 43 0 0 43 7 = Y.1 43 7 := by simp [up_g]
    rw [show (up Y.1 43 0 0, Y.2).1 43 7 = Y.1 43 7 from e] at A
    refine mk_Mo_as rfl ?_
    refine sx_Mo_as ?_
    refine ⟨trivial, _, A, fun z Y1 hq => ?_⟩
    obtain ⟨rfl, rfl⟩ := hq
    refine sx_Mo_as ?_
    refine ⟨fun q => ?_, fun q => ⟨trivial, by rw [if_neg (nif q)]; exact S0, by rw [if_neg (nif q)]⟩⟩
    have h1 := pif q
    rw [if_pos h1, if_pos h1]
    refine sx_Mo_as ?_
    refine ⟨trivial, _, mo_within w _ k 0 2, fun z Y1 hq => ?_⟩
    obtain ⟨rfl, rfl⟩ := hq
    refine sx_Mo_as ?_
    refine ⟨fun q => ?_, fun q => ⟨trivial, by rw [if_neg (fun z => nif q (by omega))]; exact S0, by rw [if_neg (fun z => nif q (by omega))]⟩⟩
    have h2 := pif q
    have h2 : 0 ≤ k ∧ k < 3 := by omega
    rw [if_pos h2, if_pos h2]
    have ek : up Y.1 43 0 0 47 a.toNat = Y.1 47 a.toNat := by rw [up_ne (by omega)]
    refine sx_Mo_as ?_
    refine ⟨h1.1, (by show _ < ((9 : Nat) : Int); omega), fun q => ?_, fun q => ?_⟩
    · have q : up Y.1 43 0 0 47 a.toNat < k := q
      rw [ek] at q
      rw [if_neg (Int.not_le.mpr q), if_neg (Int.not_le.mpr q)]
      refine sx_Mo_as ?_
      refine ⟨trivial, _, mo_fails w _ 2, fun z Y1 hq => ?_⟩
      obtain ⟨rfl, rfl⟩ := hq
      refine sx_Mo_as ?_
      exact ⟨trivial, S0.tr (SW.one 43 0 _ 2), by decide⟩
    · have q : k ≤ up Y.1 43 0 0 47 a.toNat := q
      rw [ek] at q
      rw [if_pos q, if_pos q]
      refine sx_Mo_as ?_
      exact ⟨trivial, S0, rfl⟩
