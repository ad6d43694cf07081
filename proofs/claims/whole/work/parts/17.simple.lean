/-! ===== the simple questions ===== -/
theorem mo_within (w : WD) (X : XS) (v l h : Int) : MS w M_Mo_within [.inl v, .inl l, .inl h] X (fun z Y => Y = X ∧ z = if l ≤ v ∧ v ≤ h then 1 else 0) := by
  refine mk_Mo_within rfl ?_
  refine sx_Mo_within ?_
  refine ⟨fun h1 => ?_, fun h1 => ⟨fun h2 => ?_, fun h2 => ?_⟩⟩
  · refine sx_Mo_within ?_
    exact ⟨Or.inl rfl, rfl, by rw [if_neg (by omega)]⟩
  · refine sx_Mo_within ?_
    exact ⟨Or.inl rfl, rfl, by rw [if_neg (by omega)]⟩
  · refine sx_Mo_within ?_
    exact ⟨Or.inr rfl, rfl, by rw [if_pos (by omega)]⟩
theorem mo_isMan (w : WD) (X : XS) (a : Int) : MS w M_Mo_isMan [.inr (.inr (7, 43)), .inl a] X (fun z Y => Y = X ∧ z = if 0 ≤ a ∧ a < X.1 43 7 then 1 else 0) := by
  refine mk_Mo_isMan rfl ?_
  refine sx_Mo_isMan ?_
  refine ⟨fun h1 => ?_, fun h1 => ⟨fun h2 => ?_, fun h2 => ?_⟩⟩
  · refine sx_Mo_isMan ?_
    exact ⟨Or.inl rfl, rfl, by rw [if_neg (by omega)]⟩
  · refine sx_Mo_isMan ?_
    exact ⟨Or.inl rfl, rfl, by rw [if_neg (by omega)]⟩
  · refine sx_Mo_isMan ?_
    exact ⟨Or.inr rfl, rfl, by rw [if_pos (by omega)]⟩
theorem mo_isMinute (w : WD) (X : XS) (a : Int) : MS w M_Mo_isMinute [.inl a] X (fun z Y => Y = X ∧ z = if 0 ≤ a ∧ a ≤ 29 then 1 else 0) := by
  refine mk_Mo_isMinute rfl ?_
  refine sx_Mo_isMinute ?_
  refine ⟨trivial, _, mo_within w X a 0 29, fun z Y hq => ?_⟩
  obtain ⟨rfl, rfl⟩ := hq
  refine sx_Mo_isMinute ?_
  exact ⟨zo_if _ _, rfl, rfl⟩
theorem mo_isSheet (w : WD) (X : XS) (a : Int) : MS w M_Mo_isSheet [.inl a] X (fun z Y => Y = X ∧ z = if 0 ≤ a ∧ a ≤ 3 then 1 else 0) := by
  refine mk_Mo_isSheet rfl ?_
  refine sx_Mo_isSheet ?_
  refine ⟨trivial, _, mo_within w X a 0 3, fun z Y hq => ?_⟩
  obtain ⟨rfl, rfl⟩ := hq
  refine sx_Mo_isSheet ?_
  exact ⟨zo_if _ _, rfl, rfl⟩
theorem mo_isSort (w : WD) (X : XS) (a : Int) : MS w M_Mo_isSort [.inl a] X (fun z Y => Y = X ∧ z = if 0 ≤ a ∧ a ≤ 2 then 1 else 0) := by
  refine mk_Mo_isSort rfl ?_
  refine sx_Mo_isSort ?_
  refine ⟨trivial, _, mo_within w X a 0 2, fun z Y hq => ?_⟩
  obtain ⟨rfl, rfl⟩ := hq
  refine sx_Mo_isSort ?_
  exact ⟨zo_if _ _, rfl, rfl⟩
theorem J.all {X : XS} (h : J X) : 0 ≤ X.1 43 5 * X.1 43 6 ∧ X.1 43 5 * X.1 43 6 ≤ 20 ∧ X.1 (X.2 0) 8 = X.1 43 5 * X.1 43 6 ∧ (X.1 1 8 = 0 ∧ X.1 43 5 * X.1 43 6 = 0 ∨ X.1 1 8 = 1 ∧ X.1 43 5 * X.1 43 6 ≠ 0) := by
  obtain ⟨-, -, q3, -⟩ := h.2.2.1
  rcases q3 with ⟨a, b, c, d, -⟩ | ⟨a, b, c, -, d⟩
  · rw [b, c, d]; exact ⟨by decide, by decide, by decide, Or.inl ⟨a, by decide⟩⟩
  · have := hw20 b c
    exact ⟨by omega, by omega, d, Or.inr ⟨a, by omega⟩⟩
theorem mo_all (w : WD) {X : XS} (h : J X) : MS w M_Mo_all [.inr (.inr (7, 43))] X (fun z Y => Y = X ∧ z = X.1 43 5 * X.1 43 6) := by
  have := h.all
  refine mk_Mo_all rfl ?_
  refine sx_Mo_all ?_
  exact ⟨trivial, rfl, wr_id (by omega) (by omega)⟩
theorem mo_manIn (w : WD) {X : XS} (hn : X.1 43 7 = (nM X : Int)) (h9 : nM X ≤ 9) (a : Int) : MS w M_Mo_manIn [.inr (.inr (7, 43)), .inl a] X (fun z Y => Y = X ∧ z = fn1 (fun m => decide (X.1 51 m = a)) 0 (nM X)) := by
  refine mk_Mo_manIn rfl ?_
  refine tx_Mo_manIn 2 ?_
  have L : ∀ j, j ≤ nM X → ∀ c : Int, c = (j : Int) → fn1 (fun m => decide (X.1 51 m = a)) 0 (nM X) = fn1 (fun m => decide (X.1 51 m = a)) j (nM X - j) → Go w K_Mo_manIn 2 [some (.inr (.inr (7, 43))), some (.inl a), some (.inl c)] [] X (fun z Y => Y = X ∧ z = fn1 (fun m => decide (X.1 51 m = a)) 0 (nM X)) := by
    refine lp ?_
    intro j hj ih c hc hI
    subst hc
    refine sx_Mo_manIn ?_
    refine ⟨fun h => ?_, fun h => ?_⟩
    · have e : j = nM X := by omega
      subst e
      refine sx_Mo_manIn ?_
      rw [Nat.sub_self] at hI
      exact ⟨trivial, rfl, hI.symm⟩
    · have hjn : j < nM X := by omega
      rw [show nM X - j = (nM X - (j + 1)) + 1 by omega, fn1_s] at hI
      refine ⟨(by omega), (by show _ < ((9 : Nat) : Int); omega), fun h1 => ?_, fun h1 => ?_⟩
      · have h1x : X.1 51 j ≠ a := h1
        rw [if_neg (by simpa using h1x)] at hI
        refine sx_Mo_manIn ?_
        exact ih hjn _ (w1 rfl (by omega)) hI
      · have h1x : X.1 51 j = a := h1
        rw [if_pos (by simpa using h1x)] at hI
        exact ⟨trivial, rfl, hI.symm⟩
  exact L 0 (Nat.zero_le _) 0 rfl rfl
theorem J.b0 {X : XS} (h : J X) : X.2 0 ≠ 0 := by rcases h.2.1 with h | h <;> omega
def a_sign (a : Int) (X : XS) : Int := if 0 ≤ a ∧ a < X.1 43 5 * X.1 43 6 then fn1 (fun m => decide (X.1 51 m = a)) 0 (nM X) else -1
theorem p_sign (w : WD) (a : Int) : PAIR w M_Tf_sign M_Mo_sign [.inl a] := by
  refine PAIR.ask (a_sign a) (fun X Y h => by unfold a_sign nM; rw [h 43 (by omega), h 51 (by omega)]) (fun X h => ?_) (fun X h => ?_)
  · have hal := h.all
    have A := c_isBelow w X a (X.1 (X.2 0) 8)
    rw [hal.2.2.1] at A
    refine mk_Tf_sign rfl ?_
    refine sx_Tf_sign ?_
    refine ⟨h.b0, trivial, _, (by rw [← hal.2.2.1] at A; exact A), fun z Y hq => ?_⟩
    obtain ⟨rfl, rfl⟩ := hq
    refine sx_Tf_sign ?_
    refine ⟨fun h1 => ?_, fun h1 => ?_⟩
    · have hc : 0 ≤ a ∧ a < Y.1 43 5 * Y.1 43 6 := by rw [← hal.2.2.1]; exact Decidable.byContradiction (fun q => h1 (if_neg q))
      refine sx_Tf_sign ?_
      refine ⟨h.b0, hc.1, by show _ < ((20 : Nat) : Int); omega, trivial, CS.rf Y, ?_⟩
      have := h.2.2.1.2.2.2.2.2.2 a.toNat (by omega)
      rw [Int.toNat_of_nonneg hc.1] at this
      unfold a_sign
      rw [if_pos hc]
      exact this
    · exact ⟨trivial, CS.rf Y, by unfold a_sign; rw [if_neg (fun q => by rw [← hal.2.2.1] at q; rw [if_pos q] at h1; cases h1)]⟩
  · have hal := h.all
    have hn := h.n
    refine mk_Mo_sign rfl ?_
    refine sx_Mo_sign ?_
    refine ⟨trivial, _, mo_all w h, fun z Y hq => ?_⟩
    obtain ⟨rfl, rfl⟩ := hq
    refine sx_Mo_sign ?_
    refine ⟨trivial, _, mo_within w Y a 0 _, fun z Y1 hq => ?_⟩
    obtain ⟨rfl, rfl⟩ := hq
    refine sx_Mo_sign ?_
    rw [wr_id (by omega) (by omega)]
    refine ⟨fun h1 => ?_, fun h1 => ?_⟩
    · refine sx_Mo_sign ?_
      exact ⟨trivial, ME.rf Y1, by unfold a_sign; rw [if_neg (fun q => by rw [if_pos (by omega)] at h1; cases h1)]⟩
    · have hc : 0 ≤ a ∧ a ≤ Y1.1 43 5 * Y1.1 43 6 - 1 := Decidable.byContradiction (fun q => h1 (if_neg q))
      refine ⟨trivial, _, mo_manIn w hn.1 (by omega) a, fun z Y2 hq => ?_⟩
      obtain ⟨rfl, rfl⟩ := hq
      refine sx_Mo_sign ?_
      refine sx_Mo_sign ?_
      exact ⟨trivial, ME.rf Y2, by unfold a_sign; rw [if_pos (by omega)]⟩
def a_ofMan (a b : Int) (X : XS) : Int := if 0 ≤ a ∧ a < X.1 43 7 then (if b = 0 then X.1 47 a.toNat else if b = 1 then X.1 48 a.toNat else if b = 2 then X.1 49 a.toNat else if b = 3 then X.1 50 a.toNat else if b = 4 then X.1 51 a.toNat else if b = 5 then rch (X.1 47 a.toNat) else if b = 6 then blw (X.1 47 a.toNat) (X.1 49 a.toNat) else -2) else -1
theorem p_ofMan (w : WD) (a b : Int) : PAIR w M_Tf_ofMan M_Mo_ofMan [.inl a, .inl b] := by
  refine PAIR.ask (a_ofMan a b) (fun X Y h => by unfold a_ofMan; rw [h 43 (by omega), h 47 (by omega), h 48 (by omega), h 49 (by omega), h 50 (by omega), h 51 (by omega)]) (fun X h => ?_) (fun X h => ?_)
  · have hn := h.n
    have hb := h.hb
    refine mk_Tf_ofMan rfl ?_
    refine sx_Tf_ofMan ?_
    have A := c_has w X (X.2 0) a
    rw [h.2.2.1.2.1] at A
    refine ⟨h.b0, trivial, _, A, fun z Y hq => ?_⟩
    obtain ⟨rfl, rfl⟩ := hq
    refine sx_Tf_ofMan ?_
    refine ⟨fun h1 => ?_, fun h1 => ?_⟩
    · have hc : 0 ≤ a ∧ a < Y.1 43 7 := Decidable.byContradiction (fun q => h1 (if_neg q))
      obtain ⟨m, rfl⟩ := Int.eq_ofNat_of_zero_le hc.1
      have hm : m < nM Y := by omega
      obtain ⟨e1, e2, e3, e4, e5⟩ := h.2.2.1.2.2.2.2.1 m hm
      unfold a_ofMan
      rw [if_pos hc, Int.toNat_natCast]
      refine sx_Tf_ofMan ?_
      refine ⟨⟨fun q => ?_, fun q => ?_, fun q => ?_, fun q => ?_, fun q => ?_, fun q => ?_, fun q => ?_, trivial⟩, fun q => ?_⟩
      · refine sx_Tf_ofMan ?_
        exact ⟨h.b0, (by omega), (by show _ < ((9 : Nat) : Int); omega), trivial, CS.rf Y, by rw [if_pos q]; exact e1⟩
      · refine sx_Tf_ofMan ?_
        exact ⟨h.b0, (by omega), (by show _ < ((9 : Nat) : Int); omega), trivial, CS.rf Y, by rw [if_neg (by omega), if_pos (by omega)]; exact e2⟩
      · refine sx_Tf_ofMan ?_
        exact ⟨h.b0, (by omega), (by show _ < ((9 : Nat) : Int); omega), trivial, CS.rf Y, by rw [if_neg (by omega), if_neg (by omega), if_pos (by omega)]; exact e3⟩
      · refine sx_Tf_ofMan ?_
        exact ⟨h.b0, (by omega), (by show _ < ((9 : Nat) : Int); omega), trivial, CS.rf Y, by rw [if_neg (by omega), if_neg (by omega), if_neg (by omega), if_pos (by omega)]; exact e4⟩
      · refine sx_Tf_ofMan ?_
        exact ⟨h.b0, (by omega), (by show _ < ((9 : Nat) : Int); omega), trivial, CS.rf Y, by rw [if_neg (by omega), if_neg (by omega), if_neg (by omega), if_neg (by omega), if_pos (by omega)]; exact e5⟩
      · refine sx_Tf_ofMan ?_
        refine ⟨h.b0, trivial, _, c_reach w hb (m := m) hm, fun z Y1 hq => ?_⟩
        obtain ⟨rfl, rfl⟩ := hq
        refine sx_Tf_ofMan ?_
        exact ⟨trivial, CS.rf Y1, by rw [if_neg (by omega), if_neg (by omega), if_neg (by omega), if_neg (by omega), if_neg (by omega), if_pos (by omega)]; rfl⟩
      · refine sx_Tf_ofMan ?_
        refine ⟨h.b0, trivial, _, c_blow w hb (m := m) hm, fun z Y1 hq => ?_⟩
        obtain ⟨rfl, rfl⟩ := hq
        refine sx_Tf_ofMan ?_
        exact ⟨trivial, CS.rf Y1, by rw [if_neg (by omega), if_neg (by omega), if_neg (by omega), if_neg (by omega), if_neg (by omega), if_neg (by omega), if_pos (by omega)]; rfl⟩
      · refine sx_Tf_ofMan ?_
        exact ⟨trivial, CS.rf Y, by rw [if_neg (by omega), if_neg (by omega), if_neg (by omega), if_neg (by omega), if_neg (by omega), if_neg (by omega), if_neg (by omega)]⟩
    · exact ⟨trivial, CS.rf Y, by unfold a_ofMan; rw [if_neg (fun q => by rw [if_pos q] at h1; cases h1)]⟩
  · have hn := h.n
    have hb := h.hm
    refine mk_Mo_ofMan rfl ?_
    refine sx_Mo_ofMan ?_
    refine ⟨trivial, _, mo_isMan w X a, fun z Y hq => ?_⟩
    obtain ⟨rfl, rfl⟩ := hq
    refine sx_Mo_ofMan ?_
    refine ⟨fun h1 => ?_, fun h1 => ?_⟩
    · have hc : 0 ≤ a ∧ a < Y.1 43 7 := Decidable.byContradiction (fun q => h1 (if_neg q))
      obtain ⟨m, rfl⟩ := Int.eq_ofNat_of_zero_le hc.1
      have hm : m < nM Y := by omega
      unfold a_ofMan
      rw [if_pos hc, Int.toNat_natCast]
      refine sx_Mo_ofMan ?_
      refine ⟨⟨fun q => ?_, fun q => ?_, fun q => ?_, fun q => ?_, fun q => ?_, fun q => ?_, fun q => ?_, trivial⟩, fun q => ?_⟩
      · refine sx_Mo_ofMan ?_
        exact ⟨(by omega), (by show _ < ((9 : Nat) : Int); omega), trivial, ME.rf Y, by rw [if_pos q]; rfl⟩
      · refine sx_Mo_ofMan ?_
        exact ⟨(by omega), (by show _ < ((9 : Nat) : Int); omega), trivial, ME.rf Y, by rw [if_neg (by omega), if_pos (by omega)]; rfl⟩
      · refine sx_Mo_ofMan ?_
        exact ⟨(by omega), (by show _ < ((9 : Nat) : Int); omega), trivial, ME.rf Y, by rw [if_neg (by omega), if_neg (by omega), if_pos (by omega)]; rfl⟩
      · refine sx_Mo_ofMan ?_
        exact ⟨(by omega), (by show _ < ((9 : Nat) : Int); omega), trivial, ME.rf Y, by rw [if_neg (by omega), if_neg (by omega), if_neg (by omega), if_pos (by omega)]; rfl⟩
      · refine sx_Mo_ofMan ?_
        exact ⟨(by omega), (by show _ < ((9 : Nat) : Int); omega), trivial, ME.rf Y, by rw [if_neg (by omega), if_neg (by omega), if_neg (by omega), if_neg (by omega), if_pos (by omega)]; rfl⟩
      · refine sx_Mo_ofMan ?_
        refine ⟨trivial, _, mo_reach w hb (m := m) hm, fun z Y1 hq => ?_⟩
        obtain ⟨rfl, rfl⟩ := hq
        refine sx_Mo_ofMan ?_
        exact ⟨trivial, ME.rf Y1, by rw [if_neg (by omega), if_neg (by omega), if_neg (by omega), if_neg (by omega), if_neg (by omega), if_pos (by omega)]; rfl⟩
      · refine sx_Mo_ofMan ?_
        refine ⟨trivial, _, mo_blow w hb (m := m) hm, fun z Y1 hq => ?_⟩
        obtain ⟨rfl, rfl⟩ := hq
        refine sx_Mo_ofMan ?_
        exact ⟨trivial, ME.rf Y1, by rw [if_neg (by omega), if_neg (by omega), if_neg (by omega), if_neg (by omega), if_neg (by omega), if_neg (by omega), if_pos (by omega)]; rfl⟩
      · refine sx_Mo_ofMan ?_
        exact ⟨trivial, ME.rf Y, by rw [if_neg (by omega), if_neg (by omega), if_neg (by omega), if_neg (by omega), if_neg (by omega), if_neg (by omega), if_neg (by omega)]⟩
    · exact ⟨trivial, ME.rf Y, by unfold a_ofMan; rw [if_neg (fun q => by rw [if_pos q] at h1; cases h1)]⟩
def a_far (a b : Int) (X : XS) : Int := if (0 ≤ a ∧ a < X.1 43 7) ∧ 0 ≤ b ∧ b < X.1 43 7 then fr (X.1 43 6) (X.1 51 a.toNat) (X.1 51 b.toNat) else -1
theorem p_far (w : WD) (a b : Int) : PAIR w M_Tf_far M_Mo_far [.inl a, .inl b] := by
  refine PAIR.ask (a_far a b) (fun X Y h => by unfold a_far; rw [h 43 (by omega), h 51 (by omega)]) (fun X h => ?_) (fun X h => ?_)
  · have hn := h.n
    have hb := h.hb
    have A := c_has w X (X.2 0) a
    have B := c_has w X (X.2 0) b
    rw [h.2.2.1.2.1] at A B
    have NO : ¬ ((0 ≤ a ∧ a < X.1 43 7) ∧ 0 ≤ b ∧ b < X.1 43 7) → Go w K_Tf_far 22 [some (.inr (.inr (6, 1))), some (.inl a), some (.inl b)] [] X (fun z Y => CS X Y ∧ z = a_far a b X) := by
      intro hno
      refine sx_Tf_far ?_
      exact ⟨trivial, CS.rf X, by unfold a_far; rw [if_neg hno]⟩
    refine mk_Tf_far rfl ?_
    refine sx_Tf_far ?_
    refine ⟨h.b0, trivial, _, A, fun z Y hq => ?_⟩
    obtain ⟨rfl, rfl⟩ := hq
    refine sx_Tf_far ?_
    refine ⟨fun h1 => ?_, fun h1 => ?_⟩
    · exact NO (fun q => by rw [if_pos q.1] at h1; cases h1)
    · have hc : 0 ≤ a ∧ a < Y.1 43 7 := Decidable.byContradiction (fun q => h1 (if_neg q))
      refine ⟨h.b0, trivial, _, B, fun z Y1 hq => ?_⟩
      obtain ⟨rfl, rfl⟩ := hq
      refine tx_Tf_far 1 ?_
      refine ⟨fun h2 => ?_, fun h2 => ?_⟩
      · have hd : 0 ≤ b ∧ b < Y1.1 43 7 := Decidable.byContradiction (fun q => h2 (if_neg q))
        obtain ⟨m, rfl⟩ := Int.eq_ofNat_of_zero_le hc.1
        obtain ⟨o, rfl⟩ := Int.eq_ofNat_of_zero_le hd.1
        refine sx_Tf_far ?_
        refine ⟨h.b0, trivial, _, c_between w hb (m := m) (o := o) (by show m < nM Y1; omega) (by show o < nM Y1; omega), fun z Y2 hq => ?_⟩
        obtain ⟨rfl, rfl⟩ := hq
        refine sx_Tf_far ?_
        exact ⟨trivial, CS.rf Y2, by unfold a_far; rw [if_pos ⟨hc, hd⟩]; rfl⟩
      · exact NO (fun q => by rw [if_pos q.2] at h2; cases h2)
  · have hn := h.n
    have hb := h.hm
    have NO : ¬ ((0 ≤ a ∧ a < X.1 43 7) ∧ 0 ≤ b ∧ b < X.1 43 7) → Go w K_Mo_far 25 [some (.inr (.inr (7, 43))), some (.inl a), some (.inl b)] [] X (fun z Y => ME X Y ∧ z = a_far a b X) := by
      intro hno
      refine sx_Mo_far ?_
      exact ⟨trivial, ME.rf X, by unfold a_far; rw [if_neg hno]⟩
    refine mk_Mo_far rfl ?_
    refine sx_Mo_far ?_
    refine ⟨trivial, _, mo_isMan w X a, fun z Y hq => ?_⟩
    obtain ⟨rfl, rfl⟩ := hq
    refine sx_Mo_far ?_
    refine ⟨fun h1 => ?_, fun h1 => ?_⟩
    · exact NO (fun q => by rw [if_pos q.1] at h1; cases h1)
    · have hc : 0 ≤ a ∧ a < Y.1 43 7 := Decidable.byContradiction (fun q => h1 (if_neg q))
      refine ⟨trivial, _, mo_isMan w Y b, fun z Y1 hq => ?_⟩
      obtain ⟨rfl, rfl⟩ := hq
      refine sx_Mo_far ?_
      refine ⟨fun h2 => ?_, fun h2 => ?_⟩
      · exact NO (fun q => by rw [if_pos q.2] at h2; cases h2)
      · have hd : 0 ≤ b ∧ b < Y1.1 43 7 := Decidable.byContradiction (fun q => h2 (if_neg q))
        obtain ⟨m, rfl⟩ := Int.eq_ofNat_of_zero_le hc.1
        obtain ⟨o, rfl⟩ := Int.eq_ofNat_of_zero_le hd.1
        refine ⟨trivial, _, mo_farOf w hb (m := m) (o := o) (by show m < nM Y1; omega) (by show o < nM Y1; omega), fun z Y2 hq => ?_⟩
        obtain ⟨rfl, rfl⟩ := hq
        refine sx_Mo_far ?_
        refine sx_Mo_far ?_
        exact ⟨trivial, ME.rf Y2, by unfold a_far; rw [if_pos ⟨hc, hd⟩]; rfl⟩
/-! what J rests on, part by part -/
theorem JS.cg {X Y : XS} (h : JS X) (g : ∀ i, (3 ≤ i ∧ i ≤ 10) ∨ (44 ≤ i ∧ i ≤ 46) → Y.1 i = X.1 i) : JS Y := fun k hk => by
  rw [g (3 + 2 * k) (by omega), g (3 + 2 * k + 1) (by omega), g 44 (by omega), g 45 (by omega), g 46 (by omega)]
  exact h k hk
theorem JF.cg {X Y : XS} (h : JF X) (hr : JR X) (g0 : Y.2 0 = X.2 0) (g : ∀ i, (27 ≤ i ∧ i ≤ 42) ∨ (47 ≤ i ∧ i ≤ 51) → Y.1 i = X.1 i) (g1 : Y.1 1 8 = X.1 1 8) (g5 : Y.1 43 5 = X.1 43 5) (g6 : Y.1 43 6 = X.1 43 6) (g7 : Y.1 43 7 = X.1 43 7) : JF Y := by
  have hb : X.2 0 = 27 ∨ X.2 0 = 35 := by rcases hr with h | h <;> omega
  unfold JF nM
  rw [g0, g1, g5, g6, g7, g 47 (by omega), g 48 (by omega), g 49 (by omega), g 50 (by omega), g 51 (by omega), g (X.2 0) (by omega), g (X.2 0 + 1) (by omega), g (X.2 0 + 2) (by omega), g (X.2 0 + 3) (by omega), g (X.2 0 + 4) (by omega), g (X.2 0 + 5) (by omega), g (X.2 0 + 6) (by omega), g (X.2 0 + 7) (by omega)]
  exact h
theorem JL.cg {X Y : XS} (h : JL X) (g1 : Y.1 1 9 = X.1 1 9) (g2 : Y.1 43 13 = X.1 43 13) : JL Y := by unfold JL; rw [g1, g2]; exact h
theorem JT.cg {X Y : XS} (h : JT X) (g : ∀ i, (17 ≤ i ∧ i ≤ 19) ∨ i = 53 ∨ i = 54 → Y.1 i = X.1 i) (g1 : Y.1 43 19 = X.1 43 19) (g7 : Y.1 43 7 = X.1 43 7) : JT Y := by
  unfold JT nS
  rw [g 17 (by omega), g 18 (by omega), g 19 (by omega), g 53 (by omega), g 54 (by omega), g1, g7]
  exact h
theorem JD.cg {X Y : XS} (h : JD X) (g : ∀ i, (23 ≤ i ∧ i ≤ 26) ∨ (60 ≤ i ∧ i ≤ 62) → Y.1 i = X.1 i) (g1 : Y.1 43 29 = X.1 43 29) (g7 : Y.1 43 7 = X.1 43 7) : JD Y := by
  unfold JD nR
  rw [g 23 (by omega), g 24 (by omega), g 25 (by omega), g 26 (by omega), g 60 (by omega), g 61 (by omega), g 62 (by omega), g1, g7]
  exact h
